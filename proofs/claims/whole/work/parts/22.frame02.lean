set_option maxHeartbeats 4000000 in
theorem fm_Sh_undo {σ : Mem} {r : Int32} {σ' : Mem} (h : f_Sh_undo σ = some (r, σ')) : Fr [20, 21, 22, 23, 24, 25] [(19, 6), (19, 7), (19, 8), (19, 9), (33, 6), (33, 9)] σ σ' := by
  have F := Fr.rf [20, 21, 22, 23, 24, 25] [(19, 6), (19, 7), (19, 8), (19, 9), (33, 6), (33, 9)] σ
  unfold f_Sh_undo at h
  rcases ite_or h with h | h
  · cases h
    exact F
  · obtain ⟨σ17, h1, h⟩ := bnd1_e h
    have F := F.c (fm_To_copyFrom h1) (by decide) (by decide)
    obtain ⟨σ24, h1, h⟩ := bnd1_e h
    have F := F.c (fm_Da_forgetSky h1) (by decide) (by decide)
    cases h
    exact F
set_option maxHeartbeats 4000000 in
theorem fm_Sh_check {N : Nat} {σ : Mem} {a1 : Int32} {a2 : Int32} {a3 : Int32} {r : Int32} {σ' : Mem} (h : f_Sh_check N σ a1 a2 a3 = some (r, σ')) : Fr [8, 9, 34, 35, 36, 37, 38, 39] [(1, 1), (33, 6), (33, 9)] σ σ' := by
  have F := Fr.rf [8, 9, 34, 35, 36, 37, 38, 39] [(1, 1), (33, 6), (33, 9)] σ
  unfold f_Sh_check at h
  obtain ⟨r1, h1, h⟩ := bnd1_e h
  rcases ite_or h with h | h
  · cases h
    exact F
  · obtain ⟨r9, h1, h⟩ := bnd1_e h
    rcases ite_or h with h | h
    · cases h
      exact F
    · rcases ite_or h with h | h
      · cases h
        exact F
      · rcases ite_or h with h | h
        · cases h
          exact F
        · obtain ⟨r32, h1, h⟩ := bnd1_e h
          rcases ite_or h with h | h
          · obtain ⟨σ42, h1, h⟩ := bnd1_e h
            have F := F.c (fm_Sh_today h1) (by decide) (by decide)
            obtain ⟨z53_5, h1, h⟩ := bnd1_e h
            obtain ⟨σ107, h1, h⟩ := bnd1_e h
            have F := F.c (fm_Ta_empty h1) (by decide) (by decide)
            cases h
            exact F
          · cases h
            exact F
set_option maxHeartbeats 4000000 in
theorem fm_Sh_count {N : Nat} {σ : Mem} {a1 : Int32} {r : Int32} {σ' : Mem} (h : f_Sh_count N σ a1 = some (r, σ')) : Fr [8, 9, 34, 35, 36, 37, 38, 39] [(33, 6), (33, 9)] σ σ' := by
  have F := Fr.rf [8, 9, 34, 35, 36, 37, 38, 39] [(33, 6), (33, 9)] σ
  unfold f_Sh_count at h
  rcases ite_or h with h | h
  · cases h
    exact F
  · rcases ite_or h with h | h
    · cases h
      exact F
    · rcases ite_or h with h | h
      · obtain ⟨r72, h1, h⟩ := bnd1_e h
        cases h
        exact F
      · rcases ite_or h with h | h
        · obtain ⟨r80, h1, h⟩ := bnd1_e h
          cases h
          exact F
        · rcases ite_or h with h | h
          · cases h
            exact F
          · rcases ite_or h with h | h
            · cases h
              exact F
            · rcases ite_or h with h | h
              · obtain ⟨r104, h1, h⟩ := bnd1_e h
                cases h
                exact F
              · rcases ite_or h with h | h
                · obtain ⟨r112, h1, h⟩ := bnd1_e h
                  cases h
                  exact F
                · rcases ite_or h with h | h
                  · obtain ⟨σ117, h1, h⟩ := bnd1_e h
                    have F := F.c (fm_Sh_today h1) (by decide) (by decide)
                    obtain ⟨r120, h1, h⟩ := bnd1_e h
                    cases h
                    exact F
                  · cases h
                    exact F
set_option maxHeartbeats 4000000 in
theorem fmL_Mo_types_l2 {N : Nat} {a1 : Int32} : ∀ (k : Nat) (x2 : Int32) (σ : Mem) (res : Mem), L_Mo_types_l2 N a1 k x2 σ = some res → Fr [72] [(65, 11)] σ (res) := by
  intro k
  induction k with
  | zero => intro x2 σ res h; cases h
  | succ k ih =>
    intro x2 σ res h
    have F := Fr.rf [72] [(65, 11)] σ
    replace h : B_Mo_types_l2 N a1 (L_Mo_types_l2 N a1 k) x2 σ = some res := h
    unfold B_Mo_types_l2 at h
    rcases ite_or h with h | h
    · cases h
      exact F
    · replace h := (grd_e h).2
      obtain ⟨σ21, e_σ21, h⟩ := letv_e h
      have F := F.aI e_σ21 (by decide)
      obtain ⟨σ29, e_σ29, h⟩ := letv_e h
      have F := F.fI e_σ29 (by decide)
      obtain ⟨v32, -, h⟩ := letv_e h
      exact F.t (ih _ _ _ h)
set_option maxHeartbeats 4000000 in
theorem fm_Mo_types {N : Nat} {σ : Mem} {a1 : Int32} {σ' : Mem} (h : f_Mo_types N σ a1 = some σ') : Fr [72] [(65, 11)] σ σ' := by
  have F := Fr.rf [72] [(65, 11)] σ
  unfold f_Mo_types at h
  exact F.t (fmL_Mo_types_l2 _ _ _ _ h)
set_option maxHeartbeats 4000000 in
theorem fm_Mo_feed {N : Nat} {σ : Mem} {a1 : Int32} {a2 : Int32} {a3 : Int32} {a4 : Int32} {a5 : Int32} {r : Int32} {σ' : Mem} (h : f_Mo_feed N σ a1 a2 a3 a4 a5 = some (r, σ')) : Fr [72] [(65, 11)] σ σ' := by
  have F := Fr.rf [72] [(65, 11)] σ
  unfold f_Mo_feed at h
  rcases ite_or h with h | h
  · obtain ⟨σ17, h1, h⟩ := bnd1_e h
    have F := F.c (fm_Mo_types h1) (by decide) (by decide)
    obtain ⟨σ22, h1, h⟩ := bnd1_e h
    have F := F.c (fm_Mo_types h1) (by decide) (by decide)
    obtain ⟨σ27, h1, h⟩ := bnd1_e h
    have F := F.c (fm_Mo_types h1) (by decide) (by decide)
    obtain ⟨σ33, h1, h⟩ := bnd1_e h
    have F := F.c (fm_Mo_types h1) (by decide) (by decide)
    obtain ⟨σ39, h1, h⟩ := bnd1_e h
    have F := F.c (fm_Mo_types h1) (by decide) (by decide)
    cases h
    exact F
  · cases h
    exact F
set_option maxHeartbeats 4000000 in
theorem fm_Mo_wrongAt {σ : Mem} {a1 : Int32} {a2 : Int32} {r : Int32} {σ' : Mem} (h : f_Mo_wrongAt σ a1 a2 = some (r, σ')) : Fr [] [(65, 14)] σ σ' := by
  have F := Fr.rf [] [(65, 14)] σ
  unfold f_Mo_wrongAt at h
  obtain ⟨σ8, e_σ8, h⟩ := letv_e h
  have F := F.fI e_σ8 (by decide)
  cases h
  exact F
set_option maxHeartbeats 4000000 in
theorem fm_Mo_opens {σ : Mem} {a1 : Int32} {r : Int32} {σ' : Mem} (h : f_Mo_opens σ a1 = some (r, σ')) : Fr [74] [(65, 12), (65, 14), (65, 15), (65, 17)] σ σ' := by
  have F := Fr.rf [74] [(65, 12), (65, 14), (65, 15), (65, 17)] σ
  unfold f_Mo_opens at h
  rcases ite_or h with h | h
  · obtain ⟨r15, σ15, h1, h⟩ := bnd2_e h
    have F := F.c (fm_Mo_wrongAt h1) (by decide) (by decide)
    replace h := (grd_e h).2
    cases h
    exact F
  · obtain ⟨σ26, e_σ26, h⟩ := letv_e h
    have F := F.fI e_σ26 (by decide)
    replace h := (grd_e h).2
    obtain ⟨σ41, e_σ41, h⟩ := letv_e h
    have F := F.aI e_σ41 (by decide)
    obtain ⟨σ49, e_σ49, h⟩ := letv_e h
    have F := F.fI e_σ49 (by decide)
    obtain ⟨σ59, e_σ59, h⟩ := letv_e h
    have F := F.fI e_σ59 (by decide)
    cases h
    exact F
set_option maxHeartbeats 4000000 in
theorem fm_Mo_notes {σ : Mem} {a1 : Int32} {a2 : Int32} {σ' : Mem} (h : f_Mo_notes σ a1 a2 = some σ') : Fr [73] [(65, 16)] σ σ' := by
  have F := Fr.rf [73] [(65, 16)] σ
  unfold f_Mo_notes at h
  replace h := (grd_e h).2
  obtain ⟨σ14, e_σ14, h⟩ := letv_e h
  have F := F.aI e_σ14 (by decide)
  obtain ⟨σ22, e_σ22, h⟩ := letv_e h
  have F := F.fI e_σ22 (by decide)
  cases h
  exact F
set_option maxHeartbeats 4000000 in
theorem fmL_Mo_readsNumber_l10 {N : Nat} {a1 : Int32} : ∀ (k : Nat) (σ : Mem) (res : Int32 × Mem), L_Mo_readsNumber_l10 N a1 k σ = some res → Fr [] [(65, 12), (65, 14), (65, 19)] σ (res.2) := by
  intro k
  induction k with
  | zero => intro σ res h; cases h
  | succ k ih =>
    intro σ res h
    have F := Fr.rf [] [(65, 12), (65, 14), (65, 19)] σ
    replace h : B_Mo_readsNumber_l10 N a1 (L_Mo_readsNumber_l10 N a1 k) σ = some res := h
    unfold B_Mo_readsNumber_l10 at h
    obtain ⟨r11, h1, h⟩ := bnd1_e h
    rcases ite_or h with h | h
    · cases h
      exact F
    · rcases ite_or h with h | h
      · obtain ⟨r33, σ33, h1, h⟩ := bnd2_e h
        have F := F.c (fm_Mo_wrongAt h1) (by decide) (by decide)
        replace h := (grd_e h).2
        cases h
        exact F
      · obtain ⟨r46, h1, h⟩ := bnd1_e h
        obtain ⟨σ53, e_σ53, h⟩ := letv_e h
        have F := F.fI e_σ53 (by decide)
        obtain ⟨σ63, e_σ63, h⟩ := letv_e h
        have F := F.fI e_σ63 (by decide)
        exact F.t (ih _ _ h)
set_option maxHeartbeats 4000000 in
theorem fm_Mo_readsNumber {N : Nat} {σ : Mem} {r : Int32} {σ' : Mem} (h : f_Mo_readsNumber N σ = some (r, σ')) : Fr [] [(65, 12), (65, 14), (65, 19)] σ σ' := by
  have F := Fr.rf [] [(65, 12), (65, 14), (65, 19)] σ
  unfold f_Mo_readsNumber at h
  obtain ⟨v4, e_v4, h⟩ := letv_e h
  obtain ⟨σ7, e_σ7, h⟩ := letv_e h
  have F := F.fI e_σ7 (by decide)
  exact F.t (fmL_Mo_readsNumber_l10 _  _ _ h)
set_option maxHeartbeats 4000000 in
theorem fmL_Mo_readsFactor_l0 {N : Nat} : ∀ (k : Nat) (σ : Mem) (res : (Int32 × Mem) ⊕ (Mem)), L_Mo_readsFactor_l0 N k σ = some res → Fr [73, 74] [(65, 12), (65, 14), (65, 15), (65, 16), (65, 17), (65, 19)] σ (sm res (fun r => r.2) (fun e => e)) := by
  intro k
  induction k with
  | zero => intro σ res h; cases h
  | succ k ih =>
    intro σ res h
    have F := Fr.rf [73, 74] [(65, 12), (65, 14), (65, 15), (65, 16), (65, 17), (65, 19)] σ
    replace h : B_Mo_readsFactor_l0 N (L_Mo_readsFactor_l0 N k) σ = some res := h
    unfold B_Mo_readsFactor_l0 at h
    obtain ⟨r1, h1, h⟩ := bnd1_e h
    rcases ite_or h with h | h
    · obtain ⟨r12, σ12, h1, h⟩ := bnd2_e h
      have F := F.c (fm_Mo_opens h1) (by decide) (by decide)
      rcases ite_or h with h | h
      · cases h
        exact F
      · exact F.t (ih _ _ h)
    · cases h
      exact F
set_option maxHeartbeats 4000000 in
theorem fm_Mo_readsFactor {N : Nat} {σ : Mem} {r : Int32} {σ' : Mem} (h : f_Mo_readsFactor N σ = some (r, σ')) : Fr [73, 74] [(65, 12), (65, 14), (65, 15), (65, 16), (65, 17), (65, 19)] σ σ' := by
  have F := Fr.rf [73, 74] [(65, 12), (65, 14), (65, 15), (65, 16), (65, 17), (65, 19)] σ
  unfold f_Mo_readsFactor at h
  obtain ⟨x0_, h1, h⟩ := bnd1_e h
  have F := F.t (fmL_Mo_readsFactor_l0 _  _ _ h1)
  rcases x0_ with r0_ | σ0_
  · replace h := sm_l h
    cases h
    exact F
  · replace h := sm_r h
    have F : Fr [73, 74] [(65, 12), (65, 14), (65, 15), (65, 16), (65, 17), (65, 19)] σ σ0_ := F
    obtain ⟨r21, h1, h⟩ := bnd1_e h
    rcases ite_or h with h | h
    · obtain ⟨r48, h1, h⟩ := bnd1_e h
      obtain ⟨r51, h1, h⟩ := bnd1_e h
      rcases ite_or h with h | h
      · obtain ⟨r66, σ66, h1, h⟩ := bnd2_e h
        have F := F.c (fm_Mo_wrongAt h1) (by decide) (by decide)
        replace h := (grd_e h).2
        cases h
        exact F
      · obtain ⟨σ73, h1, h⟩ := bnd1_e h
        have F := F.c (fm_Mo_notes h1) (by decide) (by decide)
        obtain ⟨σ83, e_σ83, h⟩ := letv_e h
        have F := F.fI e_σ83 (by decide)
        cases h
        exact F
    · obtain ⟨r28, σ28, h1, h⟩ := bnd2_e h
      have F := F.c (fm_Mo_readsNumber h1) (by decide) (by decide)
      rcases ite_or h with h | h
      · cases h
        exact F
      · obtain ⟨σ42, h1, h⟩ := bnd1_e h
        have F := F.c (fm_Mo_notes h1) (by decide) (by decide)
        cases h
        exact F
set_option maxHeartbeats 4000000 in
theorem fmL_Mo_closesSums_l0 {N : Nat} {a1 : Int32} : ∀ (k : Nat) (σ : Mem) (res : Mem), L_Mo_closesSums_l0 N a1 k σ = some res → Fr [73] [(65, 16), (65, 17)] σ (res) := by
  intro k
  induction k with
  | zero => intro σ res h; cases h
  | succ k ih =>
    intro σ res h
    have F := Fr.rf [73] [(65, 16), (65, 17)] σ
    replace h : B_Mo_closesSums_l0 N a1 (L_Mo_closesSums_l0 N a1 k) σ = some res := h
    unfold B_Mo_closesSums_l0 at h
    obtain ⟨r1, h1, h⟩ := bnd1_e h
    obtain ⟨s5b, h1, h⟩ := bnd1_e h
    have J5b_17 : s5b = 0 → Fr [73] [(65, 16), (65, 17)] σ (res) := by
      intro he
      rw [he] at h
      replace h := ite_t rfl h
      obtain ⟨s18b, h1, h⟩ := bnd1_e h
      have J18b_59 : s18b = 0 → Fr [73] [(65, 16), (65, 17)] σ (res) := by
        intro he
        rw [he] at h
        replace h := ite_t rfl h
        cases h
        exact F
      have J18b_37 : s18b = 1 → Fr [73] [(65, 16), (65, 17)] σ (res) := by
        intro he
        rw [he] at h
        replace h := ite_f (by decide) h
        obtain ⟨r39, h1, h⟩ := bnd1_e h
        obtain ⟨σ43, h1, h⟩ := bnd1_e h
        have F := F.c (fm_Mo_notes h1) (by decide) (by decide)
        obtain ⟨σ53, e_σ53, h⟩ := letv_e h
        have F := F.fI e_σ53 (by decide)
        exact F.t (ih _ _ h)
      replace h := h1
      rcases ite_or h with h | h
      · exact J18b_59 (Option.some.inj h).symm
      · obtain ⟨r22, h1, h⟩ := bnd1_e h
        rcases ite_or h with h | h
        · exact J18b_37 (Option.some.inj h).symm
        · obtain ⟨r30, h1, h⟩ := bnd1_e h
          rcases ite_or h with h | h
          · exact J18b_37 (Option.some.inj h).symm
          · exact J18b_59 (Option.some.inj h).symm
    have J5b_37 : s5b = 1 → Fr [73] [(65, 16), (65, 17)] σ (res) := by
      intro he
      rw [he] at h
      replace h := ite_f (by decide) h
      obtain ⟨r39, h1, h⟩ := bnd1_e h
      obtain ⟨σ43, h1, h⟩ := bnd1_e h
      have F := F.c (fm_Mo_notes h1) (by decide) (by decide)
      obtain ⟨σ53, e_σ53, h⟩ := letv_e h
      have F := F.fI e_σ53 (by decide)
      exact F.t (ih _ _ h)
    replace h := h1
    rcases ite_or h with h | h
    · exact J5b_17 (Option.some.inj h).symm
    · obtain ⟨r9, h1, h⟩ := bnd1_e h
      rcases ite_or h with h | h
      · exact J5b_37 (Option.some.inj h).symm
      · exact J5b_17 (Option.some.inj h).symm
set_option maxHeartbeats 4000000 in
theorem fm_Mo_closesSums {N : Nat} {σ : Mem} {a1 : Int32} {σ' : Mem} (h : f_Mo_closesSums N σ a1 = some σ') : Fr [73] [(65, 16), (65, 17)] σ σ' := by
  have F := Fr.rf [73] [(65, 16), (65, 17)] σ
  unfold f_Mo_closesSums at h
  obtain ⟨σ0_, h1, h⟩ := bnd1_e h
  have F := F.t (fmL_Mo_closesSums_l0 _  _ _ h1)
  have F : Fr [73] [(65, 16), (65, 17)] σ σ0_ := F
  cases h
  exact F
set_option maxHeartbeats 4000000 in
theorem fmL_Mo_readsSum_l14 {N : Nat} {a1 : Int32} : ∀ (k : Nat) (σ : Mem) (res : (Int32 × Mem) ⊕ (Mem)), L_Mo_readsSum_l14 N a1 k σ = some res → Fr [73, 74] [(65, 12), (65, 14), (65, 15), (65, 16), (65, 17), (65, 19)] σ (sm res (fun r => r.2) (fun e => e)) := by
  intro k
  induction k with
  | zero => intro σ res h; cases h
  | succ k ih =>
    intro σ res h
    have F := Fr.rf [73, 74] [(65, 12), (65, 14), (65, 15), (65, 16), (65, 17), (65, 19)] σ
    replace h : B_Mo_readsSum_l14 N a1 (L_Mo_readsSum_l14 N a1 k) σ = some res := h
    unfold B_Mo_readsSum_l14 at h
    obtain ⟨r15, h1, h⟩ := bnd1_e h
    obtain ⟨r18, h1, h⟩ := bnd1_e h
    rcases ite_or h with h | h
    · obtain ⟨r84, h1, h⟩ := bnd1_e h
      rcases ite_or h with h | h
      · obtain ⟨r94, h1, h⟩ := bnd1_e h
        rcases ite_or h with h | h
        · cases h
          exact F
        · obtain ⟨σ102, h1, h⟩ := bnd1_e h
          have F := F.c (fm_Mo_closesSums h1) (by decide) (by decide)
          obtain ⟨σ112, e_σ112, h⟩ := letv_e h
          have F := F.fI e_σ112 (by decide)
          obtain ⟨σ122, e_σ122, h⟩ := letv_e h
          have F := F.fI e_σ122 (by decide)
          obtain ⟨σ132, e_σ132, h⟩ := letv_e h
          have F := F.fI e_σ132 (by decide)
          exact F.t (ih _ _ h)
      · cases h
        exact F
    · obtain ⟨s30, h1, h⟩ := bnd1_e h
      have J30_38 : ∀ (y30_s1 : Int32), s30 = y30_s1 → Fr [73, 74] [(65, 12), (65, 14), (65, 15), (65, 16), (65, 17), (65, 19)] σ (sm res (fun r => r.2) (fun e => e)) := by
        intro y30_s1 he
        rw [he] at h
        obtain ⟨σ38, h1, h⟩ := bnd1_e h
        have F := F.c (fm_Mo_closesSums h1) (by decide) (by decide)
        replace h := (grd_e h).2
        obtain ⟨σ53, e_σ53, h⟩ := letv_e h
        have F := F.aI e_σ53 (by decide)
        obtain ⟨σ61, e_σ61, h⟩ := letv_e h
        have F := F.fI e_σ61 (by decide)
        obtain ⟨σ71, e_σ71, h⟩ := letv_e h
        have F := F.fI e_σ71 (by decide)
        obtain ⟨r75, σ75, h1, h⟩ := bnd2_e h
        have F := F.c (fm_Mo_readsFactor h1) (by decide) (by decide)
        rcases ite_or h with h | h
        · cases h
          exact F
        · exact F.t (ih _ _ h)
      replace h := h1
      rcases ite_or h with h | h
      · exact J30_38 _ (Option.some.inj h).symm
      · exact J30_38 _ (Option.some.inj h).symm
set_option maxHeartbeats 4000000 in
theorem fm_Mo_readsSum {N : Nat} {σ : Mem} {r : Int32} {σ' : Mem} (h : f_Mo_readsSum N σ = some (r, σ')) : Fr [73, 74] [(65, 12), (65, 14), (65, 15), (65, 16), (65, 17), (65, 19)] σ σ' := by
  have F := Fr.rf [73, 74] [(65, 12), (65, 14), (65, 15), (65, 16), (65, 17), (65, 19)] σ
  unfold f_Mo_readsSum at h
  obtain ⟨v4, e_v4, h⟩ := letv_e h
  obtain ⟨r6, σ6, h1, h⟩ := bnd2_e h
  have F := F.c (fm_Mo_readsFactor h1) (by decide) (by decide)
  rcases ite_or h with h | h
  · cases h
    exact F
  · obtain ⟨x14_, h1, h⟩ := bnd1_e h
    have F := F.t (fmL_Mo_readsSum_l14 _  _ _ h1)
    rcases x14_ with r14_ | σ14_
    · replace h := sm_l h
      cases h
      exact F
    · replace h := sm_r h
      have F : Fr [73, 74] [(65, 12), (65, 14), (65, 15), (65, 16), (65, 17), (65, 19)] σ σ14_ := F
      obtain ⟨r140, h1, h⟩ := bnd1_e h
      rcases ite_or h with h | h
      · obtain ⟨σ158, h1, h⟩ := bnd1_e h
        have F := F.c (fm_Mo_closesSums h1) (by decide) (by decide)
        cases h
        exact F
      · obtain ⟨r152, σ152, h1, h⟩ := bnd2_e h
        have F := F.c (fm_Mo_wrongAt h1) (by decide) (by decide)
        replace h := (grd_e h).2
        cases h
        exact F
set_option maxHeartbeats 4000000 in
theorem fmL_Mo_endsPiece_l0 {N : Nat} : ∀ (k : Nat) (σ : Mem) (res : Mem), L_Mo_endsPiece_l0 N k σ = some res → Fr [73] [(65, 15), (65, 16), (65, 17)] σ (res) := by
  intro k
  induction k with
  | zero => intro σ res h; cases h
  | succ k ih =>
    intro σ res h
    have F := Fr.rf [73] [(65, 15), (65, 16), (65, 17)] σ
    replace h : B_Mo_endsPiece_l0 N (L_Mo_endsPiece_l0 N k) σ = some res := h
    unfold B_Mo_endsPiece_l0 at h
    obtain ⟨r1, h1, h⟩ := bnd1_e h
    rcases ite_or h with h | h
    · obtain ⟨σ13, h1, h⟩ := bnd1_e h
      have F := F.c (fm_Mo_notes h1) (by decide) (by decide)
      obtain ⟨σ23, e_σ23, h⟩ := letv_e h
      have F := F.fI e_σ23 (by decide)
      obtain ⟨σ33, e_σ33, h⟩ := letv_e h
      have F := F.fI e_σ33 (by decide)
      exact F.t (ih _ _ h)
    · cases h
      exact F
set_option maxHeartbeats 4000000 in
theorem fm_Mo_endsPiece {N : Nat} {σ : Mem} {σ' : Mem} (h : f_Mo_endsPiece N σ = some σ') : Fr [73] [(65, 15), (65, 16), (65, 17)] σ σ' := by
  have F := Fr.rf [73] [(65, 15), (65, 16), (65, 17)] σ
  unfold f_Mo_endsPiece at h
  exact F.t (fmL_Mo_endsPiece_l0 _  _ _ h)
set_option maxHeartbeats 4000000 in
theorem fm_Mo_readsCompared {N : Nat} {σ : Mem} {r : Int32} {σ' : Mem} (h : f_Mo_readsCompared N σ = some (r, σ')) : Fr [73, 74] [(65, 12), (65, 14), (65, 15), (65, 16), (65, 17), (65, 19)] σ σ' := by
  have F := Fr.rf [73, 74] [(65, 12), (65, 14), (65, 15), (65, 16), (65, 17), (65, 19)] σ
  unfold f_Mo_readsCompared at h
  obtain ⟨r1, σ1, h1, h⟩ := bnd2_e h
  have F := F.c (fm_Mo_readsSum h1) (by decide) (by decide)
  rcases ite_or h with h | h
  · cases h
    exact F
  · obtain ⟨r10, h1, h⟩ := bnd1_e h
    obtain ⟨s15, h1, h⟩ := bnd1_e h
    have J15_52 : ∀ (y15_s0 : Int32), s15 = y15_s0 → Fr [73, 74] [(65, 12), (65, 14), (65, 15), (65, 16), (65, 17), (65, 19)] σ σ' := by
      intro y15_s0 he
      rw [he] at h
      rcases ite_or h with h | h
      · obtain ⟨r64, σ64, h1, h⟩ := bnd2_e h
        have F := F.c (fm_Mo_wrongAt h1) (by decide) (by decide)
        replace h := (grd_e h).2
        cases h
        exact F
      · obtain ⟨σ75, e_σ75, h⟩ := letv_e h
        have F := F.fI e_σ75 (by decide)
        obtain ⟨r79, σ79, h1, h⟩ := bnd2_e h
        have F := F.c (fm_Mo_readsSum h1) (by decide) (by decide)
        rcases ite_or h with h | h
        · cases h
          exact F
        · obtain ⟨σ90, h1, h⟩ := bnd1_e h
          have F := F.c (fm_Mo_notes h1) (by decide) (by decide)
          obtain ⟨σ94, h1, h⟩ := bnd1_e h
          have F := F.c (fm_Mo_endsPiece h1) (by decide) (by decide)
          cases h
          exact F
    replace h := h1
    rcases ite_or h with h | h
    · exact J15_52 _ (Option.some.inj h).symm
    · obtain ⟨r24, h1, h⟩ := bnd1_e h
      rcases ite_or h with h | h
      · exact J15_52 _ (Option.some.inj h).symm
      · obtain ⟨r38, h1, h⟩ := bnd1_e h
        rcases ite_or h with h | h
        · exact J15_52 _ (Option.some.inj h).symm
        · exact J15_52 _ (Option.some.inj h).symm
set_option maxHeartbeats 4000000 in
theorem fmL_Mo_lands_l0 {N : Nat} {a1 : Int32} : ∀ (k : Nat) (σ : Mem) (res : Mem), L_Mo_lands_l0 N a1 k σ = some res → Fr [73] [(65, 17)] σ (res) := by
  intro k
  induction k with
  | zero => intro σ res h; cases h
  | succ k ih =>
    intro σ res h
    have F := Fr.rf [73] [(65, 17)] σ
    replace h : B_Mo_lands_l0 N a1 (L_Mo_lands_l0 N a1 k) σ = some res := h
    unfold B_Mo_lands_l0 at h
    obtain ⟨r1, h1, h⟩ := bnd1_e h
    obtain ⟨s6b, h1, h⟩ := bnd1_e h
    have J6b_22 : s6b = 0 → Fr [73] [(65, 17)] σ (res) := by
      intro he
      rw [he] at h
      replace h := ite_t rfl h
      replace h := (grd_e h).2
      obtain ⟨v36, e_v36, h⟩ := letv_e h
      replace h := (grd_e h).2
      replace h := (grd_e h).2
      obtain ⟨σ59, e_σ59, h⟩ := letv_e h
      have F := F.aI e_σ59 (by decide)
      obtain ⟨σ67, e_σ67, h⟩ := letv_e h
      have F := F.fI e_σ67 (by decide)
      exact F.t (ih _ _ h)
    have J6b_73 : s6b = 1 → Fr [73] [(65, 17)] σ (res) := by
      intro he
      rw [he] at h
      replace h := ite_f (by decide) h
      cases h
      exact F
    replace h := h1
    rcases ite_or h with h | h
    · exact J6b_22 (Option.some.inj h).symm
    · rcases ite_or h with h | h
      · exact J6b_73 (Option.some.inj h).symm
      · obtain ⟨r14, h1, h⟩ := bnd1_e h
        rcases ite_or h with h | h
        · exact J6b_22 (Option.some.inj h).symm
        · exact J6b_73 (Option.some.inj h).symm
set_option maxHeartbeats 4000000 in
theorem fm_Mo_lands {N : Nat} {σ : Mem} {a1 : Int32} {σ' : Mem} (h : f_Mo_lands N σ a1 = some σ') : Fr [73] [(65, 17)] σ σ' := by
  have F := Fr.rf [73] [(65, 17)] σ
  unfold f_Mo_lands at h
  obtain ⟨σ0_, h1, h⟩ := bnd1_e h
  have F := F.t (fmL_Mo_lands_l0 _  _ _ h1)
  have F : Fr [73] [(65, 17)] σ σ0_ := F
  cases h
  exact F
set_option maxHeartbeats 4000000 in
theorem fm_Mo_jumps {σ : Mem} {a1 : Int32} {σ' : Mem} (h : f_Mo_jumps σ a1 = some σ') : Fr [73, 74] [(65, 12), (65, 16), (65, 17)] σ σ' := by
  have F := Fr.rf [73, 74] [(65, 12), (65, 16), (65, 17)] σ
  unfold f_Mo_jumps at h
  replace h := (grd_e h).2
  obtain ⟨σ17, e_σ17, h⟩ := letv_e h
  have F := F.aI e_σ17 (by decide)
  obtain ⟨σ25, e_σ25, h⟩ := letv_e h
  have F := F.fI e_σ25 (by decide)
  obtain ⟨σ31, h1, h⟩ := bnd1_e h
  have F := F.c (fm_Mo_notes h1) (by decide) (by decide)
  obtain ⟨σ41, e_σ41, h⟩ := letv_e h
  have F := F.fI e_σ41 (by decide)
  cases h
  exact F
set_option maxHeartbeats 4000000 in
theorem fmL_Mo_readsCondition_l92 {N : Nat} : ∀ (k : Nat) (σ : Mem) (res : (Int32 × Mem) ⊕ (Mem)), L_Mo_readsCondition_l92 N k σ = some res → Fr [73, 74] [(65, 12), (65, 14), (65, 15), (65, 16), (65, 17), (65, 19)] σ (sm res (fun r => r.2) (fun e => e)) := by
  intro k
  induction k with
  | zero => intro σ res h; cases h
  | succ k ih =>
    intro σ res h
    have F := Fr.rf [73, 74] [(65, 12), (65, 14), (65, 15), (65, 16), (65, 17), (65, 19)] σ
    replace h : B_Mo_readsCondition_l92 N (L_Mo_readsCondition_l92 N k) σ = some res := h
    unfold B_Mo_readsCondition_l92 at h
    obtain ⟨r93, h1, h⟩ := bnd1_e h
    rcases ite_or h with h | h
    · obtain ⟨σ103, h1, h⟩ := bnd1_e h
      have F := F.c (fm_Mo_lands h1) (by decide) (by decide)
      obtain ⟨σ113, e_σ113, h⟩ := letv_e h
      have F := F.fI e_σ113 (by decide)
      obtain ⟨σ123, e_σ123, h⟩ := letv_e h
      have F := F.fI e_σ123 (by decide)
      obtain ⟨σ133, e_σ133, h⟩ := letv_e h
      have F := F.fI e_σ133 (by decide)
      rcases ite_or h with h | h
      · cases h
        exact F
      · obtain ⟨σ146, h1, h⟩ := bnd1_e h
        have F := F.c (fm_Mo_endsPiece h1) (by decide) (by decide)
        exact F.t (ih _ _ h)
    · cases h
      exact F
set_option maxHeartbeats 4000000 in
theorem fmL_Mo_readsCondition_l40 {N : Nat} : ∀ (k : Nat) (σ : Mem) (res : Int32 × Mem), L_Mo_readsCondition_l40 N k σ = some res → Fr [73, 74] [(65, 12), (65, 14), (65, 15), (65, 16), (65, 17), (65, 19)] σ (res.2) := by
  intro k
  induction k with
  | zero => intro σ res h; cases h
  | succ k ih =>
    intro σ res h
    have F := Fr.rf [73, 74] [(65, 12), (65, 14), (65, 15), (65, 16), (65, 17), (65, 19)] σ
    replace h : B_Mo_readsCondition_l40 N (L_Mo_readsCondition_l40 N k) σ = some res := h
    unfold B_Mo_readsCondition_l40 at h
    obtain ⟨r41, h1, h⟩ := bnd1_e h
    obtain ⟨s46b, h1, h⟩ := bnd1_e h
    have J46b_58 : ∀ (σ46b_ : Mem), s46b = (0, σ46b_) → Fr [73, 74] [(65, 12), (65, 14), (65, 15), (65, 16), (65, 17), (65, 19)] σ σ46b_ → Fr [73, 74] [(65, 12), (65, 14), (65, 15), (65, 16), (65, 17), (65, 19)] σ (res.2) := by
      intro σ46b_ he F
      rw [he] at h
      replace h := q2_e h
      replace h := ite_t rfl h
      obtain ⟨r60, h1, h⟩ := bnd1_e h
      obtain ⟨s65, h1, h⟩ := bnd1_e h
      have J65_75 : ∀ (y65_s1 : Int32), s65 = y65_s1 → Fr [73, 74] [(65, 12), (65, 14), (65, 15), (65, 16), (65, 17), (65, 19)] σ (res.2) := by
        intro y65_s1 he
        rw [he] at h
        obtain ⟨r75, σ75, h1, h⟩ := bnd2_e h
        have F := F.c (fm_Mo_opens h1) (by decide) (by decide)
        rcases ite_or h with h | h
        · cases h
          exact F
        · exact F.t (ih _ _ h)
      replace h := h1
      rcases ite_or h with h | h
      · exact J65_75 _ (Option.some.inj h).symm
      · exact J65_75 _ (Option.some.inj h).symm
    have J46b_92 : ∀ (σ46b_ : Mem), s46b = (1, σ46b_) → Fr [73, 74] [(65, 12), (65, 14), (65, 15), (65, 16), (65, 17), (65, 19)] σ σ46b_ → Fr [73, 74] [(65, 12), (65, 14), (65, 15), (65, 16), (65, 17), (65, 19)] σ (res.2) := by
      intro σ46b_ he F
      rw [he] at h
      replace h := q2_e h
      replace h := ite_f (by decide) h
      replace h := ite_t rfl h
      obtain ⟨x92_, h1, h⟩ := bnd1_e h
      have F := F.t (fmL_Mo_readsCondition_l92 _  _ _ h1)
      rcases x92_ with r92_ | σ92_
      · replace h := sm_l h
        cases h
        exact F
      · replace h := sm_r h
        have F : Fr [73, 74] [(65, 12), (65, 14), (65, 15), (65, 16), (65, 17), (65, 19)] σ σ92_ := F
        obtain ⟨r153, h1, h⟩ := bnd1_e h
        obtain ⟨s158b, h1, h⟩ := bnd1_e h
        have J158b_180 : s158b = 0 → Fr [73, 74] [(65, 12), (65, 14), (65, 15), (65, 16), (65, 17), (65, 19)] σ (res.2) := by
          intro he
          rw [he] at h
          replace h := ite_t rfl h
          obtain ⟨r182, h1, h⟩ := bnd1_e h
          obtain ⟨s187, h1, h⟩ := bnd1_e h
          have J187_195 : ∀ (y187_s1 : Int32), s187 = y187_s1 → Fr [73, 74] [(65, 12), (65, 14), (65, 15), (65, 16), (65, 17), (65, 19)] σ (res.2) := by
            intro y187_s1 he
            rw [he] at h
            obtain ⟨σ195, h1, h⟩ := bnd1_e h
            have F := F.c (fm_Mo_lands h1) (by decide) (by decide)
            obtain ⟨r200, h1, h⟩ := bnd1_e h
            obtain ⟨s205, h1, h⟩ := bnd1_e h
            have J205_215 : ∀ (y205_s1 : Int32), s205 = y205_s1 → Fr [73, 74] [(65, 12), (65, 14), (65, 15), (65, 16), (65, 17), (65, 19)] σ (res.2) := by
              intro y205_s1 he
              rw [he] at h
              obtain ⟨σ215, h1, h⟩ := bnd1_e h
              have F := F.c (fm_Mo_jumps h1) (by decide) (by decide)
              exact F.t (ih _ _ h)
            replace h := h1
            rcases ite_or h with h | h
            · exact J205_215 _ (Option.some.inj h).symm
            · exact J205_215 _ (Option.some.inj h).symm
          replace h := h1
          rcases ite_or h with h | h
          · exact J187_195 _ (Option.some.inj h).symm
          · exact J187_195 _ (Option.some.inj h).symm
        have J158b_170 : s158b = 1 → Fr [73, 74] [(65, 12), (65, 14), (65, 15), (65, 16), (65, 17), (65, 19)] σ (res.2) := by
          intro he
          rw [he] at h
          replace h := ite_f (by decide) h
          obtain ⟨r176, σ176, h1, h⟩ := bnd2_e h
          have F := F.c (fm_Mo_wrongAt h1) (by decide) (by decide)
          replace h := (grd_e h).2
          cases h
          exact F
        replace h := h1
        rcases ite_or h with h | h
        · exact J158b_180 (Option.some.inj h).symm
        · obtain ⟨r162, h1, h⟩ := bnd1_e h
          rcases ite_or h with h | h
          · exact J158b_180 (Option.some.inj h).symm
          · exact J158b_170 (Option.some.inj h).symm
    have J46b_90 : ∀ (σ46b_ : Mem), s46b = (2, σ46b_) → Fr [73, 74] [(65, 12), (65, 14), (65, 15), (65, 16), (65, 17), (65, 19)] σ σ46b_ → Fr [73, 74] [(65, 12), (65, 14), (65, 15), (65, 16), (65, 17), (65, 19)] σ (res.2) := by
      intro σ46b_ he F
      rw [he] at h
      replace h := q2_e h
      replace h := ite_f (by decide) h
      replace h := ite_f (by decide) h
      cases h
      exact F
    replace h := h1
    rcases ite_or h with h | h
    · exact J46b_58 _ (Option.some.inj h).symm F
    · obtain ⟨r50, h1, h⟩ := bnd1_e h
      rcases ite_or h with h | h
      · exact J46b_58 _ (Option.some.inj h).symm F
      · obtain ⟨r84, σ84, h1, h⟩ := bnd2_e h
        have F := F.c (fm_Mo_readsCompared h1) (by decide) (by decide)
        rcases ite_or h with h | h
        · exact J46b_90 _ (Option.some.inj h).symm F
        · exact J46b_92 _ (Option.some.inj h).symm F
set_option maxHeartbeats 4000000 in
theorem fm_Mo_readsCondition {N : Nat} {σ : Mem} {r : Int32} {σ' : Mem} (h : f_Mo_readsCondition N σ = some (r, σ')) : Fr [73, 74] [(65, 12), (65, 14), (65, 15), (65, 16), (65, 17), (65, 19)] σ σ' := by
  have F := Fr.rf [73, 74] [(65, 12), (65, 14), (65, 15), (65, 16), (65, 17), (65, 19)] σ
  unfold f_Mo_readsCondition at h
  obtain ⟨r1, h1, h⟩ := bnd1_e h
  rcases ite_or h with h | h
  · obtain ⟨σ21, e_σ21, h⟩ := letv_e h
    have F := F.fI e_σ21 (by decide)
    obtain ⟨σ26, e_σ26, h⟩ := letv_e h
    have F := F.fI e_σ26 (by decide)
    obtain ⟨r32, σ32, h1, h⟩ := bnd2_e h
    have F := F.c (fm_Mo_opens h1) (by decide) (by decide)
    rcases ite_or h with h | h
    · cases h
      exact F
    · exact F.t (fmL_Mo_readsCondition_l40 _  _ _ h)
  · obtain ⟨r15, σ15, h1, h⟩ := bnd2_e h
    have F := F.c (fm_Mo_wrongAt h1) (by decide) (by decide)
    replace h := (grd_e h).2
    cases h
    exact F
set_option maxHeartbeats 4000000 in
theorem fm_Mo_readsClause {N : Nat} {σ : Mem} {r : Int32} {σ' : Mem} (h : f_Mo_readsClause N σ = some (r, σ')) : Fr [73, 74, 75, 76, 77, 78] [(65, 12), (65, 14), (65, 15), (65, 16), (65, 17), (65, 18), (65, 19)] σ σ' := by
  have F := Fr.rf [73, 74, 75, 76, 77, 78] [(65, 12), (65, 14), (65, 15), (65, 16), (65, 17), (65, 18), (65, 19)] σ
  unfold f_Mo_readsClause at h
  obtain ⟨r1, h1, h⟩ := bnd1_e h
  obtain ⟨r6, h1, h⟩ := bnd1_e h
  obtain ⟨s9b, h1, h⟩ := bnd1_e h
  have J9b_99 : ∀ (σ9b_ : Mem), s9b = (0, σ9b_) → Fr [73, 74, 75, 76, 77, 78] [(65, 12), (65, 14), (65, 15), (65, 16), (65, 17), (65, 18), (65, 19)] σ σ9b_ → Fr [73, 74, 75, 76, 77, 78] [(65, 12), (65, 14), (65, 15), (65, 16), (65, 17), (65, 18), (65, 19)] σ σ' := by
    intro σ9b_ he F
    rw [he] at h
    replace h := q2_e h
    replace h := ite_t rfl h
    replace h := (grd_e h).2
    obtain ⟨σ111, e_σ111, h⟩ := letv_e h
    have F := F.aI e_σ111 (by decide)
    obtain ⟨r113, σ113, h1, h⟩ := bnd2_e h
    have F := F.c (fm_Mo_readsCondition h1) (by decide) (by decide)
    rcases ite_or h with h | h
    · cases h
      exact F
    · replace h := (grd_e h).2
      obtain ⟨σ133, e_σ133, h⟩ := letv_e h
      have F := F.aI e_σ133 (by decide)
      obtain ⟨σ141, e_σ141, h⟩ := letv_e h
      have F := F.fI e_σ141 (by decide)
      cases h
      exact F
  have J9b_97 : ∀ (σ9b_ : Mem), s9b = (1, σ9b_) → Fr [73, 74, 75, 76, 77, 78] [(65, 12), (65, 14), (65, 15), (65, 16), (65, 17), (65, 18), (65, 19)] σ σ9b_ → Fr [73, 74, 75, 76, 77, 78] [(65, 12), (65, 14), (65, 15), (65, 16), (65, 17), (65, 18), (65, 19)] σ σ' := by
    intro σ9b_ he F
    rw [he] at h
    replace h := q2_e h
    replace h := ite_f (by decide) h
    replace h := ite_t rfl h
    cases h
    exact F
  have J9b_31 : ∀ (σ9b_ : Mem), s9b = (2, σ9b_) → Fr [73, 74, 75, 76, 77, 78] [(65, 12), (65, 14), (65, 15), (65, 16), (65, 17), (65, 18), (65, 19)] σ σ9b_ → Fr [73, 74, 75, 76, 77, 78] [(65, 12), (65, 14), (65, 15), (65, 16), (65, 17), (65, 18), (65, 19)] σ σ' := by
    intro σ9b_ he F
    rw [he] at h
    replace h := q2_e h
    replace h := ite_f (by decide) h
    replace h := ite_f (by decide) h
    replace h := ite_t rfl h
    obtain ⟨r37, σ37, h1, h⟩ := bnd2_e h
    have F := F.c (fm_Mo_wrongAt h1) (by decide) (by decide)
    replace h := (grd_e h).2
    cases h
    exact F
  have J9b_12 : ∀ (σ9b_ : Mem), s9b = (3, σ9b_) → Fr [73, 74, 75, 76, 77, 78] [(65, 12), (65, 14), (65, 15), (65, 16), (65, 17), (65, 18), (65, 19)] σ σ9b_ → Fr [73, 74, 75, 76, 77, 78] [(65, 12), (65, 14), (65, 15), (65, 16), (65, 17), (65, 18), (65, 19)] σ σ' := by
    intro σ9b_ he F
    rw [he] at h
    replace h := q2_e h
    replace h := ite_f (by decide) h
    replace h := ite_f (by decide) h
    replace h := ite_f (by decide) h
    obtain ⟨r18, σ18, h1, h⟩ := bnd2_e h
    have F := F.c (fm_Mo_wrongAt h1) (by decide) (by decide)
    replace h := (grd_e h).2
    cases h
    exact F
  replace h := h1
  rcases ite_or h with h | h
  · exact J9b_12 _ (Option.some.inj h).symm F
  · rcases ite_or h with h | h
    · exact J9b_31 _ (Option.some.inj h).symm F
    · replace h := (grd_e h).2
      obtain ⟨σ50, e_σ50, h⟩ := letv_e h
      have F := F.aI e_σ50 (by decide)
      obtain ⟨σ58, e_σ58, h⟩ := letv_e h
      have F := F.fI e_σ58 (by decide)
      replace h := (grd_e h).2
      obtain ⟨σ73, e_σ73, h⟩ := letv_e h
      have F := F.aI e_σ73 (by decide)
      obtain ⟨σ76, e_σ76, h⟩ := letv_e h
      have F := F.fI e_σ76 (by decide)
      obtain ⟨σ81, e_σ81, h⟩ := letv_e h
      have F := F.fI e_σ81 (by decide)
      rcases ite_or h with h | h
      · exact J9b_99 _ (Option.some.inj h).symm F
      · obtain ⟨r91, σ91, h1, h⟩ := bnd2_e h
        have F := F.c (fm_Mo_readsSum h1) (by decide) (by decide)
        rcases ite_or h with h | h
        · exact J9b_97 _ (Option.some.inj h).symm F
        · exact J9b_99 _ (Option.some.inj h).symm F
set_option maxHeartbeats 4000000 in
theorem fm_Mo_takes {σ : Mem} {a1 : Int32} {r : Int32} {σ' : Mem} (h : f_Mo_takes σ a1 = some (r, σ')) : Fr [] [(65, 12), (65, 14)] σ σ' := by
  have F := Fr.rf [] [(65, 12), (65, 14)] σ
  unfold f_Mo_takes at h
  obtain ⟨r1, h1, h⟩ := bnd1_e h
  rcases ite_or h with h | h
  · obtain ⟨σ25, e_σ25, h⟩ := letv_e h
    have F := F.fI e_σ25 (by decide)
    cases h
    exact F
  · obtain ⟨r14, σ14, h1, h⟩ := bnd2_e h
    have F := F.c (fm_Mo_wrongAt h1) (by decide) (by decide)
    replace h := (grd_e h).2
    cases h
    exact F
set_option maxHeartbeats 4000000 in
theorem fmL_Mo_law_l46 {N : Nat} : ∀ (k : Nat) (x2 : Int32) (σ : Mem) (res : Int32 × Mem), L_Mo_law_l46 N k x2 σ = some res → Fr [73, 74, 75, 76, 77, 78, 79, 80, 81, 82, 83] [(65, 11), (65, 12), (65, 13), (65, 14), (65, 15), (65, 16), (65, 17), (65, 18), (65, 19), (65, 20)] σ (res.2) := by
  intro k
  induction k with
  | zero => intro x2 σ res h; cases h
  | succ k ih =>
    intro x2 σ res h
    have F := Fr.rf [73, 74, 75, 76, 77, 78, 79, 80, 81, 82, 83] [(65, 11), (65, 12), (65, 13), (65, 14), (65, 15), (65, 16), (65, 17), (65, 18), (65, 19), (65, 20)] σ
    replace h : B_Mo_law_l46 N (L_Mo_law_l46 N k) x2 σ = some res := h
    unfold B_Mo_law_l46 at h
    rcases ite_or h with h | h
    · cases h
      exact F
    · rcases ite_or h with h | h
      · cases h
        exact F
      · obtain ⟨r64, σ64, h1, h⟩ := bnd2_e h
        have F := F.c (fm_Mo_takes h1) (by decide) (by decide)
        obtain ⟨s67, h1, h⟩ := bnd1_e h
        have J67_82 : ∀ (y67_s0 : Int32) (σ67_ : Mem), s67 = (y67_s0, σ67_) → Fr [73, 74, 75, 76, 77, 78, 79, 80, 81, 82, 83] [(65, 11), (65, 12), (65, 13), (65, 14), (65, 15), (65, 16), (65, 17), (65, 18), (65, 19), (65, 20)] σ σ67_ → Fr [73, 74, 75, 76, 77, 78, 79, 80, 81, 82, 83] [(65, 11), (65, 12), (65, 13), (65, 14), (65, 15), (65, 16), (65, 17), (65, 18), (65, 19), (65, 20)] σ (res.2) := by
          intro y67_s0 σ67_ he F
          rw [he] at h
          replace h := q2_e h
          exact F.t (ih _ _ _ h)
        replace h := h1
        obtain ⟨s67b, h1, h⟩ := bnd1_e h
        have J67b_81 : ∀ (σ67b_ : Mem), s67b = (0, σ67b_) → Fr [73, 74, 75, 76, 77, 78, 79, 80, 81, 82, 83] [(65, 11), (65, 12), (65, 13), (65, 14), (65, 15), (65, 16), (65, 17), (65, 18), (65, 19), (65, 20)] σ σ67b_ → Fr [73, 74, 75, 76, 77, 78, 79, 80, 81, 82, 83] [(65, 11), (65, 12), (65, 13), (65, 14), (65, 15), (65, 16), (65, 17), (65, 18), (65, 19), (65, 20)] σ (res.2) := by
          intro σ67b_ he F
          rw [he] at h
          replace h := q2_e h
          replace h := ite_t rfl h
          exact J67_82 _ _ (Option.some.inj h).symm F
        have J67b_77 : ∀ (σ67b_ : Mem), s67b = (1, σ67b_) → Fr [73, 74, 75, 76, 77, 78, 79, 80, 81, 82, 83] [(65, 11), (65, 12), (65, 13), (65, 14), (65, 15), (65, 16), (65, 17), (65, 18), (65, 19), (65, 20)] σ σ67b_ → Fr [73, 74, 75, 76, 77, 78, 79, 80, 81, 82, 83] [(65, 11), (65, 12), (65, 13), (65, 14), (65, 15), (65, 16), (65, 17), (65, 18), (65, 19), (65, 20)] σ (res.2) := by
          intro σ67b_ he F
          rw [he] at h
          replace h := q2_e h
          replace h := ite_f (by decide) h
          exact J67_82 _ _ (Option.some.inj h).symm F
        replace h := h1
        rcases ite_or h with h | h
        · exact J67b_81 _ (Option.some.inj h).symm F
        · obtain ⟨r71, σ71, h1, h⟩ := bnd2_e h
          have F := F.c (fm_Mo_readsClause h1) (by decide) (by decide)
          rcases ite_or h with h | h
          · exact J67b_81 _ (Option.some.inj h).symm F
          · exact J67b_77 _ (Option.some.inj h).symm F
set_option maxHeartbeats 4000000 in
theorem fmL_Mo_law_l110 {N : Nat} : ∀ (k : Nat) (x3 : Int32) (σ : Mem) (res : Mem), L_Mo_law_l110 N k x3 σ = some res → Fr [73, 74, 75, 76, 77, 78, 79, 80, 81, 82, 83] [(65, 11), (65, 12), (65, 13), (65, 14), (65, 15), (65, 16), (65, 17), (65, 18), (65, 19), (65, 20)] σ (res) := by
  intro k
  induction k with
  | zero => intro x3 σ res h; cases h
  | succ k ih =>
    intro x3 σ res h
    have F := Fr.rf [73, 74, 75, 76, 77, 78, 79, 80, 81, 82, 83] [(65, 11), (65, 12), (65, 13), (65, 14), (65, 15), (65, 16), (65, 17), (65, 18), (65, 19), (65, 20)] σ
    replace h : B_Mo_law_l110 N (L_Mo_law_l110 N k) x3 σ = some res := h
    unfold B_Mo_law_l110 at h
    rcases ite_or h with h | h
    · cases h
      exact F
    · replace h := (grd_e h).2
      replace h := (grd_e h).2
      obtain ⟨σ129, e_σ129, h⟩ := letv_e h
      have F := F.aI e_σ129 (by decide)
      obtain ⟨v130, -, h⟩ := letv_e h
      exact F.t (ih _ _ _ h)
set_option maxHeartbeats 4000000 in
theorem fmL_Mo_law_l138 {N : Nat} : ∀ (k : Nat) (x3 : Int32) (σ : Mem) (res : Int32 × Mem), L_Mo_law_l138 N k x3 σ = some res → Fr [73, 74, 75, 76, 77, 78, 79, 80, 81, 82, 83] [(65, 11), (65, 12), (65, 13), (65, 14), (65, 15), (65, 16), (65, 17), (65, 18), (65, 19), (65, 20)] σ (res.2) := by
  intro k
  induction k with
  | zero => intro x3 σ res h; cases h
  | succ k ih =>
    intro x3 σ res h
    have F := Fr.rf [73, 74, 75, 76, 77, 78, 79, 80, 81, 82, 83] [(65, 11), (65, 12), (65, 13), (65, 14), (65, 15), (65, 16), (65, 17), (65, 18), (65, 19), (65, 20)] σ
    replace h : B_Mo_law_l138 N (L_Mo_law_l138 N k) x3 σ = some res := h
    unfold B_Mo_law_l138 at h
    rcases ite_or h with h | h
    · cases h
      exact F
    · replace h := (grd_e h).2
      replace h := (grd_e h).2
      obtain ⟨σ157, e_σ157, h⟩ := letv_e h
      have F := F.aI e_σ157 (by decide)
      replace h := (grd_e h).2
      replace h := (grd_e h).2
      obtain ⟨σ169, e_σ169, h⟩ := letv_e h
      have F := F.aI e_σ169 (by decide)
      replace h := (grd_e h).2
      replace h := (grd_e h).2
      obtain ⟨σ181, e_σ181, h⟩ := letv_e h
      have F := F.aI e_σ181 (by decide)
      replace h := (grd_e h).2
      replace h := (grd_e h).2
      obtain ⟨σ193, e_σ193, h⟩ := letv_e h
      have F := F.aI e_σ193 (by decide)
      obtain ⟨v194, -, h⟩ := letv_e h
      exact F.t (ih _ _ _ h)
set_option maxHeartbeats 4000000 in
theorem fm_Mo_law {N : Nat} {σ : Mem} {a1 : Int32} {r : Int32} {σ' : Mem} (h : f_Mo_law N σ a1 = some (r, σ')) : Fr [73, 74, 75, 76, 77, 78, 79, 80, 81, 82, 83] [(65, 11), (65, 12), (65, 13), (65, 14), (65, 15), (65, 16), (65, 17), (65, 18), (65, 19), (65, 20)] σ σ' := by
  have F := Fr.rf [73, 74, 75, 76, 77, 78, 79, 80, 81, 82, 83] [(65, 11), (65, 12), (65, 13), (65, 14), (65, 15), (65, 16), (65, 17), (65, 18), (65, 19), (65, 20)] σ
  unfold f_Mo_law at h
  obtain ⟨r5, h1, h⟩ := bnd1_e h
  rcases ite_or h with h | h
  · cases h
    exact F
  · rcases ite_or h with h | h
    · obtain ⟨σ23, e_σ23, h⟩ := letv_e h
      have F := F.fI e_σ23 (by decide)
      obtain ⟨σ28, e_σ28, h⟩ := letv_e h
      have F := F.fI e_σ28 (by decide)
      obtain ⟨σ33, e_σ33, h⟩ := letv_e h
      have F := F.fI e_σ33 (by decide)
      obtain ⟨σ38, e_σ38, h⟩ := letv_e h
      have F := F.fI e_σ38 (by decide)
      obtain ⟨r42, σ42, h1, h⟩ := bnd2_e h
      have F := F.c (fm_Mo_readsClause h1) (by decide) (by decide)
      obtain ⟨x46_, h1, h⟩ := bnd1_e h
      have F := F.t (fmL_Mo_law_l46 _ _ _ _ h1)
      obtain ⟨z46_2, σ46_⟩ := x46_
      replace h := q2_e h
      have F : Fr [73, 74, 75, 76, 77, 78, 79, 80, 81, 82, 83] [(65, 11), (65, 12), (65, 13), (65, 14), (65, 15), (65, 16), (65, 17), (65, 18), (65, 19), (65, 20)] σ σ46_ := F
      obtain ⟨σ88, e_σ88, h⟩ := letv_e h
      have F := F.fI e_σ88 (by decide)
      rcases ite_or h with h | h
      · cases h
        exact F
      · obtain ⟨σ105, e_σ105, h⟩ := letv_e h
        have F := F.fI e_σ105 (by decide)
        obtain ⟨σ110_, h1, h⟩ := bnd1_e h
        have F := F.t (fmL_Mo_law_l110 _ _ _ _ h1)
        have F : Fr [73, 74, 75, 76, 77, 78, 79, 80, 81, 82, 83] [(65, 11), (65, 12), (65, 13), (65, 14), (65, 15), (65, 16), (65, 17), (65, 18), (65, 19), (65, 20)] σ σ110_ := F
        exact F.t (fmL_Mo_law_l138 _ _ _ _ h)
    · cases h
      exact F
set_option maxHeartbeats 4000000 in
theorem fm_Mo_puts {σ : Mem} {a1 : Int32} {a2 : Int32} {a3 : Int32} {a4 : Int32} {a5 : Int32} {r : Int32} {σ' : Mem} (h : f_Mo_puts σ a1 a2 a3 a4 a5 = some (r, σ')) : Fr [66, 67, 68, 69, 70] [(65, 0), (65, 1)] σ σ' := by
  have F := Fr.rf [66, 67, 68, 69, 70] [(65, 0), (65, 1)] σ
  unfold f_Mo_puts at h
  replace h := (grd_e h).2
  obtain ⟨σ9, e_σ9, h⟩ := letv_e h
  have F := F.aI e_σ9 (by decide)
  replace h := (grd_e h).2
  obtain ⟨σ19, e_σ19, h⟩ := letv_e h
  have F := F.aI e_σ19 (by decide)
  replace h := (grd_e h).2
  obtain ⟨σ29, e_σ29, h⟩ := letv_e h
  have F := F.aI e_σ29 (by decide)
  replace h := (grd_e h).2
  obtain ⟨σ40, e_σ40, h⟩ := letv_e h
  have F := F.aI e_σ40 (by decide)
  replace h := (grd_e h).2
  obtain ⟨σ51, e_σ51, h⟩ := letv_e h
  have F := F.aI e_σ51 (by decide)
  obtain ⟨σ64, e_σ64, h⟩ := letv_e h
  have F := F.fI e_σ64 (by decide)
  obtain ⟨σ74, e_σ74, h⟩ := letv_e h
  have F := F.fI e_σ74 (by decide)
  cases h
  exact F
set_option maxHeartbeats 4000000 in
theorem fm_Mo_caster {N : Nat} {σ : Mem} {a1 : Int32} {a2 : Int32} {a3 : Int32} {a4 : Int32} {a5 : Int32} {r : Int32} {σ' : Mem} (h : f_Mo_caster N σ a1 a2 a3 a4 a5 = some (r, σ')) : Fr [66, 67, 68, 69, 70] [(65, 0), (65, 1)] σ σ' := by
  have F := Fr.rf [66, 67, 68, 69, 70] [(65, 0), (65, 1)] σ
  unfold f_Mo_caster at h
  obtain ⟨s1b, h1, h⟩ := bnd1_e h
  have J1b_14 : s1b = 0 → Fr [66, 67, 68, 69, 70] [(65, 0), (65, 1)] σ σ' := by
    intro he
    rw [he] at h
    replace h := ite_t rfl h
    obtain ⟨r16, h1, h⟩ := bnd1_e h
    obtain ⟨s19b, h1, h⟩ := bnd1_e h
    have J19b_52 : ∀ (y19b_6 : Int32), s19b = (0, y19b_6) → Fr [66, 67, 68, 69, 70] [(65, 0), (65, 1)] σ σ' := by
      intro y19b_6 he
      rw [he] at h
      replace h := q2_e h
      replace h := ite_t rfl h
      cases h
      exact F
    have J19b_78 : ∀ (y19b_6 : Int32), s19b = (1, y19b_6) → Fr [66, 67, 68, 69, 70] [(65, 0), (65, 1)] σ σ' := by
      intro y19b_6 he
      rw [he] at h
      replace h := q2_e h
      replace h := ite_f (by decide) h
      replace h := ite_t rfl h
      obtain ⟨r87, σ87, h1, h⟩ := bnd2_e h
      have F := F.c (fm_Mo_puts h1) (by decide) (by decide)
      cases h
      exact F
    have J19b_75 : ∀ (y19b_6 : Int32), s19b = (2, y19b_6) → Fr [66, 67, 68, 69, 70] [(65, 0), (65, 1)] σ σ' := by
      intro y19b_6 he
      rw [he] at h
      replace h := q2_e h
      replace h := ite_f (by decide) h
      replace h := ite_f (by decide) h
      cases h
      exact F
    replace h := h1
    rcases ite_or h with h | h
    · exact J19b_52 _ (Option.some.inj h).symm
    · obtain ⟨r27, h1, h⟩ := bnd1_e h
      rcases ite_or h with h | h
      · exact J19b_52 _ (Option.some.inj h).symm
      · obtain ⟨r37, h1, h⟩ := bnd1_e h
        rcases ite_or h with h | h
        · exact J19b_52 _ (Option.some.inj h).symm
        · rcases ite_or h with h | h
          · exact J19b_52 _ (Option.some.inj h).symm
          · obtain ⟨v60, e_v60, h⟩ := letv_e h
            rcases ite_or h with h | h
            · obtain ⟨r69, h1, h⟩ := bnd1_e h
              rcases ite_or h with h | h
              · exact J19b_75 _ (Option.some.inj h).symm
              · exact J19b_78 _ (Option.some.inj h).symm
            · exact J19b_78 _ (Option.some.inj h).symm
  have J1b_52 : s1b = 1 → Fr [66, 67, 68, 69, 70] [(65, 0), (65, 1)] σ σ' := by
    intro he
    rw [he] at h
    replace h := ite_f (by decide) h
    cases h
    exact F
  replace h := h1
  rcases ite_or h with h | h
  · exact J1b_14 (Option.some.inj h).symm
  · rcases ite_or h with h | h
    · exact J1b_14 (Option.some.inj h).symm
    · rcases ite_or h with h | h
      · exact J1b_14 (Option.some.inj h).symm
      · exact J1b_52 (Option.some.inj h).symm
set_option maxHeartbeats 4000000 in
theorem fm_Mo_awning {σ : Mem} {a1 : Int32} {a2 : Int32} {a3 : Int32} {a4 : Int32} {a5 : Int32} {r : Int32} {σ' : Mem} (h : f_Mo_awning σ a1 a2 a3 a4 a5 = some (r, σ')) : Fr [66, 67, 68, 69, 70] [(65, 0), (65, 1)] σ σ' := by
  have F := Fr.rf [66, 67, 68, 69, 70] [(65, 0), (65, 1)] σ
  unfold f_Mo_awning at h
  obtain ⟨r2, h1, h⟩ := bnd1_e h
  rcases ite_or h with h | h
  · cases h
    exact F
  · obtain ⟨r11, h1, h⟩ := bnd1_e h
    rcases ite_or h with h | h
    · cases h
      exact F
    · obtain ⟨r21, h1, h⟩ := bnd1_e h
      rcases ite_or h with h | h
      · cases h
        exact F
      · obtain ⟨r31, h1, h⟩ := bnd1_e h
        rcases ite_or h with h | h
        · cases h
          exact F
        · rcases ite_or h with h | h
          · cases h
            exact F
          · obtain ⟨r61, σ61, h1, h⟩ := bnd2_e h
            have F := F.c (fm_Mo_puts h1) (by decide) (by decide)
            cases h
            exact F
set_option maxHeartbeats 4000000 in
theorem fm_Mo_down {σ : Mem} {a1 : Int32} {r : Int32} {σ' : Mem} (h : f_Mo_down σ a1 = some (r, σ')) : Fr [] [(65, 1)] σ σ' := by
  have F := Fr.rf [] [(65, 1)] σ
  unfold f_Mo_down at h
  obtain ⟨r2, h1, h⟩ := bnd1_e h
  rcases ite_or h with h | h
  · cases h
    exact F
  · obtain ⟨σ21, e_σ21, h⟩ := letv_e h
    have F := F.fI e_σ21 (by decide)
    cases h
    exact F
set_option maxHeartbeats 4000000 in
theorem fm_Mo_move {N : Nat} {σ : Mem} {a1 : Int32} {a2 : Int32} {a3 : Int32} {r : Int32} {σ' : Mem} (h : f_Mo_move N σ a1 a2 a3 = some (r, σ')) : Fr [67] [] σ σ' := by
  have F := Fr.rf [67] [] σ
  unfold f_Mo_move at h
  obtain ⟨r2, h1, h⟩ := bnd1_e h
  rcases ite_or h with h | h
  · cases h
    exact F
  · replace h := (grd_e h).2
    rcases ite_or h with h | h
    · obtain ⟨r20, h1, h⟩ := bnd1_e h
      rcases ite_or h with h | h
      · cases h
        exact F
      · obtain ⟨r33, h1, h⟩ := bnd1_e h
        rcases ite_or h with h | h
        · cases h
          exact F
        · replace h := (grd_e h).2
          obtain ⟨σ52, e_σ52, h⟩ := letv_e h
          have F := F.aI e_σ52 (by decide)
          cases h
          exact F
    · cases h
      exact F
set_option maxHeartbeats 4000000 in
theorem fm_Mo_season {σ : Mem} {a1 : Int32} {r : Int32} {σ' : Mem} (h : f_Mo_season σ a1 = some (r, σ')) : Fr [] [(65, 2)] σ σ' := by
  have F := Fr.rf [] [(65, 2)] σ
  unfold f_Mo_season at h
  obtain ⟨r3, h1, h⟩ := bnd1_e h
  rcases ite_or h with h | h
  · cases h
    exact F
  · obtain ⟨σ13, e_σ13, h⟩ := letv_e h
    have F := F.fI e_σ13 (by decide)
    cases h
    exact F
set_option maxHeartbeats 4000000 in
theorem fmL_Mo_feels_l2 {N : Nat} {a1 : Int32} : ∀ (k : Nat) (x2 : Int32) (σ : Mem) (res : Mem), L_Mo_feels_l2 N a1 k x2 σ = some res → Fr [85] [] σ (res) := by
  intro k
  induction k with
  | zero => intro x2 σ res h; cases h
  | succ k ih =>
    intro x2 σ res h
    have F := Fr.rf [85] [] σ
    replace h : B_Mo_feels_l2 N a1 (L_Mo_feels_l2 N a1 k) x2 σ = some res := h
    unfold B_Mo_feels_l2 at h
    rcases ite_or h with h | h
    · obtain ⟨σ27, e_σ27, h⟩ := letv_e h
      have F := F.aI e_σ27 (by decide)
      obtain ⟨σ37, e_σ37, h⟩ := letv_e h
      have F := F.aI e_σ37 (by decide)
      cases h
      exact F
    · replace h := (grd_e h).2
      obtain ⟨σ14, e_σ14, h⟩ := letv_e h
      have F := F.aI e_σ14 (by decide)
      obtain ⟨v15, -, h⟩ := letv_e h
      exact F.t (ih _ _ _ h)
set_option maxHeartbeats 4000000 in
theorem fm_Mo_feels {N : Nat} {σ : Mem} {a1 : Int32} {σ' : Mem} (h : f_Mo_feels N σ a1 = some σ') : Fr [85] [] σ σ' := by
  have F := Fr.rf [85] [] σ
  unfold f_Mo_feels at h
  exact F.t (fmL_Mo_feels_l2 _ _ _ _ h)
set_option maxHeartbeats 4000000 in
theorem fmL_Mo_comesTo_l16 {N : Nat} {a2 : Int32} {a4 : Int32} : ∀ (k : Nat) (x3 : Int32) (x5 : Int32) (σ : Mem) (res : Int32 × Mem), L_Mo_comesTo_l16 N a2 a4 k x3 x5 σ = some res → Fr [84] [] σ (res.2) := by
  intro k
  induction k with
  | zero => intro x3 x5 σ res h; cases h
  | succ k ih =>
    intro x3 x5 σ res h
    have F := Fr.rf [84] [] σ
    replace h : B_Mo_comesTo_l16 N a2 a4 (L_Mo_comesTo_l16 N a2 a4 k) x3 x5 σ = some res := h
    unfold B_Mo_comesTo_l16 at h
    obtain ⟨s19b, h1, h⟩ := bnd1_e h
    have J19b_233 : ∀ (y19b_5 : Int32) (y19b_6 : Int32) (y19b_7 : Int32) (y19b_3 : Int32), s19b = (0, y19b_5, y19b_6, y19b_7, y19b_3) → Fr [84] [] σ (res.2) := by
      intro y19b_5 y19b_6 y19b_7 y19b_3 he
      rw [he] at h
      replace h := q5_e h
      replace h := ite_t rfl h
      cases h
      exact F
    have J19b_63 : ∀ (y19b_5 : Int32) (y19b_6 : Int32) (y19b_7 : Int32) (y19b_3 : Int32), s19b = (1, y19b_5, y19b_6, y19b_7, y19b_3) → Fr [84] [] σ (res.2) := by
      intro y19b_5 y19b_6 y19b_7 y19b_3 he
      rw [he] at h
      replace h := q5_e h
      replace h := ite_f (by decide) h
      replace h := ite_t rfl h
      obtain ⟨s70, h1, h⟩ := bnd1_e h
      have J70_85 : ∀ (y70_s2 : Int32), s70 = y70_s2 → Fr [84] [] σ (res.2) := by
        intro y70_s2 he
        rw [he] at h
        replace h := (grd_e h).2
        obtain ⟨σ85, e_σ85, h⟩ := letv_e h
        have F := F.aI e_σ85 (by decide)
        obtain ⟨v89, e_v89, h⟩ := letv_e h
        exact F.t (ih _ _ _ _ h)
      replace h := h1
      rcases ite_or h with h | h
      · exact J70_85 _ (Option.some.inj h).symm
      · replace h := (grd_e h).2
        exact J70_85 _ (Option.some.inj h).symm
    have J19b_135 : ∀ (y19b_5 : Int32) (y19b_6 : Int32) (y19b_7 : Int32) (y19b_3 : Int32), s19b = (2, y19b_5, y19b_6, y19b_7, y19b_3) → Fr [84] [] σ (res.2) := by
      intro y19b_5 y19b_6 y19b_7 y19b_3 he
      rw [he] at h
      replace h := q5_e h
      replace h := ite_f (by decide) h
      replace h := ite_f (by decide) h
      replace h := ite_t rfl h
      replace h := (grd_e h).2
      obtain ⟨s147, h1, h⟩ := bnd1_e h
      have J147_155 : ∀ (y147_s1 : Int32), s147 = y147_s1 → Fr [84] [] σ (res.2) := by
        intro y147_s1 he
        rw [he] at h
        obtain ⟨s155, h1, h⟩ := bnd1_e h
        have J155_230 : ∀ (y155_3 : Int32) (y155_5 : Int32), s155 = (y155_3, y155_5) → Fr [84] [] σ (res.2) := by
          intro y155_3 y155_5 he
          rw [he] at h
          replace h := q2_e h
          exact F.t (ih _ _ _ _ h)
        replace h := h1
        rcases ite_or h with h | h
        · obtain ⟨v163, e_v163, h⟩ := letv_e h
          exact J155_230 _ _ (Option.some.inj h).symm
        · obtain ⟨v171, e_v171, h⟩ := letv_e h
          exact J155_230 _ _ (Option.some.inj h).symm
      replace h := h1
      rcases ite_or h with h | h
      · exact J147_155 _ (Option.some.inj h).symm
      · exact J147_155 _ (Option.some.inj h).symm
    have J19b_192 : ∀ (y19b_5 : Int32) (y19b_6 : Int32) (y19b_7 : Int32) (y19b_3 : Int32), s19b = (3, y19b_5, y19b_6, y19b_7, y19b_3) → Fr [84] [] σ (res.2) := by
      intro y19b_5 y19b_6 y19b_7 y19b_3 he
      rw [he] at h
      replace h := q5_e h
      replace h := ite_f (by decide) h
      replace h := ite_f (by decide) h
      replace h := ite_f (by decide) h
      replace h := ite_t rfl h
      replace h := (grd_e h).2
      rcases ite_or h with h | h
      · cases h
        exact F
      · replace h := (grd_e h).2
        replace h := (grd_e h).2
        obtain ⟨r226, h1, h⟩ := bnd1_e h
        replace h := (grd_e h).2
        obtain ⟨σ229, e_σ229, h⟩ := letv_e h
        have F := F.aI e_σ229 (by decide)
        exact F.t (ih _ _ _ _ h)
    have J19b_203 : ∀ (y19b_5 : Int32) (y19b_6 : Int32) (y19b_7 : Int32) (y19b_3 : Int32), s19b = (4, y19b_5, y19b_6, y19b_7, y19b_3) → Fr [84] [] σ (res.2) := by
      intro y19b_5 y19b_6 y19b_7 y19b_3 he
      rw [he] at h
      replace h := q5_e h
      replace h := ite_f (by decide) h
      replace h := ite_f (by decide) h
      replace h := ite_f (by decide) h
      replace h := ite_f (by decide) h
      replace h := ite_t rfl h
      replace h := (grd_e h).2
      replace h := (grd_e h).2
      obtain ⟨r226, h1, h⟩ := bnd1_e h
      replace h := (grd_e h).2
      obtain ⟨σ229, e_σ229, h⟩ := letv_e h
      have F := F.aI e_σ229 (by decide)
      exact F.t (ih _ _ _ _ h)
    have J19b_100 : ∀ (y19b_5 : Int32) (y19b_6 : Int32) (y19b_7 : Int32) (y19b_3 : Int32), s19b = (5, y19b_5, y19b_6, y19b_7, y19b_3) → Fr [84] [] σ (res.2) := by
      intro y19b_5 y19b_6 y19b_7 y19b_3 he
      rw [he] at h
      replace h := q5_e h
      replace h := ite_f (by decide) h
      replace h := ite_f (by decide) h
      replace h := ite_f (by decide) h
      replace h := ite_f (by decide) h
      replace h := ite_f (by decide) h
      replace h := (grd_e h).2
      replace h := (grd_e h).2
      obtain ⟨σ117, e_σ117, h⟩ := letv_e h
      have F := F.aI e_σ117 (by decide)
      exact F.t (ih _ _ _ _ h)
    replace h := h1
    rcases ite_or h with h | h
    · exact J19b_233 _ _ _ _ (Option.some.inj h).symm
    · replace h := (grd_e h).2
      obtain ⟨v32, e_v32, h⟩ := letv_e h
      replace h := (grd_e h).2
      obtain ⟨v44, e_v44, h⟩ := letv_e h
      obtain ⟨v50, e_v50, h⟩ := letv_e h
      rcases ite_or h with h | h
      · exact J19b_63 _ _ _ _ (Option.some.inj h).symm
      · rcases ite_or h with h | h
        · exact J19b_63 _ _ _ _ (Option.some.inj h).symm
        · rcases ite_or h with h | h
          · exact J19b_100 _ _ _ _ (Option.some.inj h).symm
          · rcases ite_or h with h | h
            · exact J19b_135 _ _ _ _ (Option.some.inj h).symm
            · rcases ite_or h with h | h
              · exact J19b_135 _ _ _ _ (Option.some.inj h).symm
              · obtain ⟨v178, e_v178, h⟩ := letv_e h
                rcases ite_or h with h | h
                · exact J19b_192 _ _ _ _ (Option.some.inj h).symm
                · rcases ite_or h with h | h
                  · exact J19b_192 _ _ _ _ (Option.some.inj h).symm
                  · exact J19b_203 _ _ _ _ (Option.some.inj h).symm
set_option maxHeartbeats 4000000 in
theorem fm_Mo_comesTo {N : Nat} {σ : Mem} {a1 : Int32} {a2 : Int32} {r : Int32} {σ' : Mem} (h : f_Mo_comesTo N σ a1 a2 = some (r, σ')) : Fr [84] [] σ σ' := by
  have F := Fr.rf [84] [] σ
  unfold f_Mo_comesTo at h
  obtain ⟨v11, e_v11, h⟩ := letv_e h
  exact F.t (fmL_Mo_comesTo_l16 _ _ _ _ _ h)
set_option maxHeartbeats 4000000 in
theorem fmL_Mo_isUp_l7 {N : Nat} : ∀ (k : Nat) (x2 : Int32) (σ : Mem) (res : Int32 × Mem), L_Mo_isUp_l7 N k x2 σ = some res → Fr [84, 85] [] σ (res.2) := by
  intro k
  induction k with
  | zero => intro x2 σ res h; cases h
  | succ k ih =>
    intro x2 σ res h
    have F := Fr.rf [84, 85] [] σ
    replace h : B_Mo_isUp_l7 N (L_Mo_isUp_l7 N k) x2 σ = some res := h
    unfold B_Mo_isUp_l7 at h
    obtain ⟨s12b, h1, h⟩ := bnd1_e h
    have J12b_54 : ∀ (σ12b_ : Mem), s12b = (0, σ12b_) → Fr [84, 85] [] σ σ12b_ → Fr [84, 85] [] σ (res.2) := by
      intro σ12b_ he F
      rw [he] at h
      replace h := q2_e h
      replace h := ite_t rfl h
      cases h
      exact F
    have J12b_48 : ∀ (σ12b_ : Mem), s12b = (1, σ12b_) → Fr [84, 85] [] σ σ12b_ → Fr [84, 85] [] σ (res.2) := by
      intro σ12b_ he F
      rw [he] at h
      replace h := q2_e h
      replace h := ite_f (by decide) h
      replace h := ite_t rfl h
      obtain ⟨v48, -, h⟩ := letv_e h
      exact F.t (ih _ _ _ h)
    have J12b_46 : ∀ (σ12b_ : Mem), s12b = (2, σ12b_) → Fr [84, 85] [] σ σ12b_ → Fr [84, 85] [] σ (res.2) := by
      intro σ12b_ he F
      rw [he] at h
      replace h := q2_e h
      replace h := ite_f (by decide) h
      replace h := ite_f (by decide) h
      cases h
      exact F
    replace h := h1
    rcases ite_or h with h | h
    · exact J12b_54 _ (Option.some.inj h).symm F
    · replace h := (grd_e h).2
      rcases ite_or h with h | h
      · replace h := (grd_e h).2
        replace h := (grd_e h).2
        obtain ⟨r39, σ39, h1, h⟩ := bnd2_e h
        have F := F.c (fm_Mo_comesTo h1) (by decide) (by decide)
        rcases ite_or h with h | h
        · exact J12b_46 _ (Option.some.inj h).symm F
        · exact J12b_48 _ (Option.some.inj h).symm F
      · exact J12b_48 _ (Option.some.inj h).symm F
set_option maxHeartbeats 4000000 in
theorem fm_Mo_isUp {N : Nat} {σ : Mem} {a1 : Int32} {r : Int32} {σ' : Mem} (h : f_Mo_isUp N σ a1 = some (r, σ')) : Fr [84, 85] [] σ σ' := by
  have F := Fr.rf [84, 85] [] σ
  unfold f_Mo_isUp at h
  obtain ⟨σ2, h1, h⟩ := bnd1_e h
  have F := F.c (fm_Mo_feels h1) (by decide) (by decide)
  exact F.t (fmL_Mo_isUp_l7 _ _ _ _ h)
set_option maxHeartbeats 4000000 in
theorem fmL_Mo_byLaw_l3 {N : Nat} {a1 : Int32} {a2 : Int32} {a3 : Int32} : ∀ (k : Nat) (x4 : Int32) (σ : Mem) (res : (Int32 × Mem) ⊕ (Int32 × Mem)), L_Mo_byLaw_l3 N a1 a2 a3 k x4 σ = some res → Fr [84] [] σ (sm res (fun r => r.2) (fun e => e.2)) := by
  intro k
  induction k with
  | zero => intro x4 σ res h; cases h
  | succ k ih =>
    intro x4 σ res h
    have F := Fr.rf [84] [] σ
    replace h : B_Mo_byLaw_l3 N a1 a2 a3 (L_Mo_byLaw_l3 N a1 a2 a3 k) x4 σ = some res := h
    unfold B_Mo_byLaw_l3 at h
    obtain ⟨s9b, h1, h⟩ := bnd1_e h
    have J9b_97 : ∀ (σ9b_ : Mem), s9b = (0, σ9b_) → Fr [84] [] σ σ9b_ → Fr [84] [] σ (sm res (fun r => r.2) (fun e => e.2)) := by
      intro σ9b_ he F
      rw [he] at h
      replace h := q2_e h
      replace h := ite_t rfl h
      cases h
      exact F
    have J9b_91 : ∀ (σ9b_ : Mem), s9b = (1, σ9b_) → Fr [84] [] σ σ9b_ → Fr [84] [] σ (sm res (fun r => r.2) (fun e => e.2)) := by
      intro σ9b_ he F
      rw [he] at h
      replace h := q2_e h
      replace h := ite_f (by decide) h
      replace h := ite_t rfl h
      obtain ⟨v91, -, h⟩ := letv_e h
      exact F.t (ih _ _ _ h)
    have J9b_48 : ∀ (σ9b_ : Mem), s9b = (2, σ9b_) → Fr [84] [] σ σ9b_ → Fr [84] [] σ (sm res (fun r => r.2) (fun e => e.2)) := by
      intro σ9b_ he F
      rw [he] at h
      replace h := q2_e h
      replace h := ite_f (by decide) h
      replace h := ite_f (by decide) h
      cases h
      exact F
    replace h := h1
    rcases ite_or h with h | h
    · exact J9b_97 _ (Option.some.inj h).symm F
    · replace h := (grd_e h).2
      rcases ite_or h with h | h
      · replace h := (grd_e h).2
        replace h := (grd_e h).2
        obtain ⟨r38, σ38, h1, h⟩ := bnd2_e h
        have F := F.c (fm_Mo_comesTo h1) (by decide) (by decide)
        rcases ite_or h with h | h
        · exact J9b_48 _ (Option.some.inj h).symm F
        · exact J9b_91 _ (Option.some.inj h).symm F
      · exact J9b_91 _ (Option.some.inj h).symm F
set_option maxHeartbeats 4000000 in
theorem fm_Mo_byLaw {N : Nat} {σ : Mem} {a1 : Int32} {a2 : Int32} {a3 : Int32} {r : Int32} {σ' : Mem} (h : f_Mo_byLaw N σ a1 a2 a3 = some (r, σ')) : Fr [84] [] σ σ' := by
  have F := Fr.rf [84] [] σ
  unfold f_Mo_byLaw at h
  obtain ⟨x3_, h1, h⟩ := bnd1_e h
  have F := F.t (fmL_Mo_byLaw_l3 _ _ _ _ h1)
  rcases x3_ with r3_ | e3
  · replace h := sm_l h
    cases h
    exact F
  · replace h := sm_r h
    obtain ⟨z3_4, σ3_⟩ := e3
    replace h := q2_e h
    have F : Fr [84] [] σ σ3_ := F
    replace h := (grd_e h).2
    replace h := (grd_e h).2
    obtain ⟨r63, σ63, h1, h⟩ := bnd2_e h
    have F := F.c (fm_Mo_comesTo h1) (by decide) (by decide)
    rcases ite_or h with h | h
    · rcases ite_or h with h | h
      · cases h
        exact F
      · cases h
        exact F
    · cases h
      exact F
set_option maxHeartbeats 4000000 in
theorem fm_Mo_eastOf {N : Nat} {σ : Mem} {a1 : Int32} {r : Int32} {σ' : Mem} (h : f_Mo_eastOf N σ a1 = some (r, σ')) : Fr [84, 85] [] σ σ' := by
  have F := Fr.rf [84, 85] [] σ
  unfold f_Mo_eastOf at h
  obtain ⟨σ2, h1, h⟩ := bnd1_e h
  have F := F.c (fm_Mo_feels h1) (by decide) (by decide)
  obtain ⟨r12, σ12, h1, h⟩ := bnd2_e h
  have F := F.c (fm_Mo_byLaw h1) (by decide) (by decide)
  cases h
  exact F
set_option maxHeartbeats 4000000 in
theorem fm_Mo_northOf {N : Nat} {σ : Mem} {a1 : Int32} {r : Int32} {σ' : Mem} (h : f_Mo_northOf N σ a1 = some (r, σ')) : Fr [84, 85] [] σ σ' := by
  have F := Fr.rf [84, 85] [] σ
  unfold f_Mo_northOf at h
  obtain ⟨σ2, h1, h⟩ := bnd1_e h
  have F := F.c (fm_Mo_feels h1) (by decide) (by decide)
  obtain ⟨r12, σ12, h1, h⟩ := bnd2_e h
  have F := F.c (fm_Mo_byLaw h1) (by decide) (by decide)
  cases h
  exact F
set_option maxHeartbeats 4000000 in
theorem fm_Mo_cloudsIn {N : Nat} {σ : Mem} {a1 : Int32} {r : Int32} {σ' : Mem} (h : f_Mo_cloudsIn N σ a1 = some (r, σ')) : Fr [84, 85] [] σ σ' := by
  have F := Fr.rf [84, 85] [] σ
  unfold f_Mo_cloudsIn at h
  obtain ⟨σ2, h1, h⟩ := bnd1_e h
  have F := F.c (fm_Mo_feels h1) (by decide) (by decide)
  obtain ⟨r11, σ11, h1, h⟩ := bnd2_e h
  have F := F.c (fm_Mo_byLaw h1) (by decide) (by decide)
  cases h
  exact F
set_option maxHeartbeats 4000000 in
theorem fm_Mo_sun {N : Nat} {σ : Mem} {a1 : Int32} {a2 : Int32} {r : Int32} {σ' : Mem} (h : f_Mo_sun N σ a1 a2 = some (r, σ')) : Fr [84, 85] [] σ σ' := by
  have F := Fr.rf [84, 85] [] σ
  unfold f_Mo_sun at h
  obtain ⟨r1, h1, h⟩ := bnd1_e h
  rcases ite_or h with h | h
  · cases h
    exact F
  · rcases ite_or h with h | h
    · obtain ⟨r42, σ42, h1, h⟩ := bnd2_e h
      have F := F.c (fm_Mo_isUp h1) (by decide) (by decide)
      rcases ite_or h with h | h
      · cases h
        exact F
      · cases h
        exact F
    · rcases ite_or h with h | h
      · obtain ⟨r56, σ56, h1, h⟩ := bnd2_e h
        have F := F.c (fm_Mo_eastOf h1) (by decide) (by decide)
        cases h
        exact F
      · rcases ite_or h with h | h
        · obtain ⟨r62, σ62, h1, h⟩ := bnd2_e h
          have F := F.c (fm_Mo_northOf h1) (by decide) (by decide)
          cases h
          exact F
        · rcases ite_or h with h | h
          · obtain ⟨r68, σ68, h1, h⟩ := bnd2_e h
            have F := F.c (fm_Mo_cloudsIn h1) (by decide) (by decide)
            cases h
            exact F
          · cases h
            exact F
set_option maxHeartbeats 4000000 in
theorem fmL_Mo_laysFree_l7 {N : Nat} : ∀ (k : Nat) (x1 : Int32) (σ : Mem) (res : Mem), L_Mo_laysFree_l7 N k x1 σ = some res → Fr [88] [(65, 37)] σ (res) := by
  intro k
  induction k with
  | zero => intro x1 σ res h; cases h
  | succ k ih =>
    intro x1 σ res h
    have F := Fr.rf [88] [(65, 37)] σ
    replace h : B_Mo_laysFree_l7 N (L_Mo_laysFree_l7 N k) x1 σ = some res := h
    unfold B_Mo_laysFree_l7 at h
    rcases ite_or h with h | h
    · cases h
      exact F
    · obtain ⟨r21, h1, h⟩ := bnd1_e h
      replace h := (grd_e h).2
      obtain ⟨σ24, e_σ24, h⟩ := letv_e h
      have F := F.aI e_σ24 (by decide)
      replace h := (grd_e h).2
      obtain ⟨s36, h1, h⟩ := bnd1_e h
      have J36_44 : ∀ (y36_s2 : Int32), s36 = y36_s2 → Fr [88] [(65, 37)] σ (res) := by
        intro y36_s2 he
        rw [he] at h
        obtain ⟨σ45, e_σ45, h⟩ := letv_e h
        have F := F.fI e_σ45 (by decide)
        obtain ⟨v48, -, h⟩ := letv_e h
        exact F.t (ih _ _ _ h)
      replace h := h1
      rcases ite_or h with h | h
      · exact J36_44 _ (Option.some.inj h).symm
      · exact J36_44 _ (Option.some.inj h).symm
set_option maxHeartbeats 4000000 in
theorem fm_Mo_laysFree {N : Nat} {σ : Mem} {σ' : Mem} (h : f_Mo_laysFree N σ = some σ') : Fr [88] [(65, 37)] σ σ' := by
  have F := Fr.rf [88] [(65, 37)] σ
  unfold f_Mo_laysFree at h
  obtain ⟨σ2, e_σ2, h⟩ := letv_e h
  have F := F.fI e_σ2 (by decide)
  exact F.t (fmL_Mo_laysFree_l7 _ _ _ _ h)
set_option maxHeartbeats 4000000 in
theorem fm_Mo_casts {σ : Mem} {a1 : Int32} {a2 : Int32} {a3 : Int32} {a4 : Int32} {σ' : Mem} (h : f_Mo_casts σ a1 a2 a3 a4 = some σ') : Fr [86] [] σ σ' := by
  have F := Fr.rf [86] [] σ
  unfold f_Mo_casts at h
  obtain ⟨r2, h1, h⟩ := bnd1_e h
  rcases ite_or h with h | h
  · cases h
    exact F
  · obtain ⟨v21, e_v21, h⟩ := letv_e h
    replace h := (grd_e h).2
    replace h := (grd_e h).2
    obtain ⟨σ41, e_σ41, h⟩ := letv_e h
    have F := F.aI e_σ41 (by decide)
    cases h
    exact F
set_option maxHeartbeats 4000000 in
theorem fmL_Mo_castsFar_l78 {N : Nat} {a1 : Int32} {a2 : Int32} {a3 : Int32} {a4 : Int32} {a5 : Int32} {a6 : Int32} {a7 : Int32} {a8 : Int32} : ∀ (k : Nat) (x9 : Int32) (σ : Mem) (res : Mem), L_Mo_castsFar_l78 N a1 a2 a3 a4 a5 a6 a7 a8 k x9 σ = some res → Fr [86] [] σ (res) := by
  intro k
  induction k with
  | zero => intro x9 σ res h; cases h
  | succ k ih =>
    intro x9 σ res h
    have F := Fr.rf [86] [] σ
    replace h : B_Mo_castsFar_l78 N a1 a2 a3 a4 a5 a6 a7 a8 (L_Mo_castsFar_l78 N a1 a2 a3 a4 a5 a6 a7 a8 k) x9 σ = some res := h
    unfold B_Mo_castsFar_l78 at h
    rcases ite_or h with h | h
    · cases h
      exact F
    · replace h := (grd_e h).2
      replace h := (grd_e h).2
      obtain ⟨σ109, h1, h⟩ := bnd1_e h
      have F := F.c (fm_Mo_casts h1) (by decide) (by decide)
      obtain ⟨v112, -, h⟩ := letv_e h
      exact F.t (ih _ _ _ h)
set_option maxHeartbeats 4000000 in
theorem fm_Mo_castsFar {N : Nat} {σ : Mem} {a1 : Int32} {a2 : Int32} {a3 : Int32} {a4 : Int32} {σ' : Mem} (h : f_Mo_castsFar N σ a1 a2 a3 a4 = some σ') : Fr [86] [] σ σ' := by
  have F := Fr.rf [86] [] σ
  unfold f_Mo_castsFar at h
  replace h := (grd_e h).2
  obtain ⟨v9, e_v9, h⟩ := letv_e h
  replace h := (grd_e h).2
  obtain ⟨v20, e_v20, h⟩ := letv_e h
  obtain ⟨r23, h1, h⟩ := bnd1_e h
  obtain ⟨r28, h1, h⟩ := bnd1_e h
  obtain ⟨r31, h1, h⟩ := bnd1_e h
  replace h := (grd_e h).2
  obtain ⟨r50, h1, h⟩ := bnd1_e h
  replace h := (grd_e h).2
  obtain ⟨s62, h1, h⟩ := bnd1_e h
  have J62_75 : ∀ (σ62_ : Mem), s62 = σ62_ → Fr [86] [] σ σ62_ → Fr [86] [] σ σ' := by
    intro σ62_ he F
    rw [he] at h
    exact F.t (fmL_Mo_castsFar_l78 _ _ _ _ h)
  replace h := h1
  rcases ite_or h with h | h
  · obtain ⟨σ72, h1, h⟩ := bnd1_e h
    have F := F.c (fm_Mo_casts h1) (by decide) (by decide)
    exact J62_75 _ (Option.some.inj h).symm F
  · exact J62_75 _ (Option.some.inj h).symm F
set_option maxHeartbeats 4000000 in
theorem fmL_Mo_castsNear_l24 {N : Nat} {a1 : Int32} {a2 : Int32} {a3 : Int32} {a4 : Int32} : ∀ (k : Nat) (x5 : Int32) (σ : Mem) (res : Mem), L_Mo_castsNear_l24 N a1 a2 a3 a4 k x5 σ = some res → Fr [86] [] σ (res) := by
  intro k
  induction k with
  | zero => intro x5 σ res h; cases h
  | succ k ih =>
    intro x5 σ res h
    have F := Fr.rf [86] [] σ
    replace h : B_Mo_castsNear_l24 N a1 a2 a3 a4 (L_Mo_castsNear_l24 N a1 a2 a3 a4 k) x5 σ = some res := h
    unfold B_Mo_castsNear_l24 at h
    replace h := (grd_e h).2
    rcases ite_or h with h | h
    · cases h
      exact F
    · replace h := (grd_e h).2
      obtain ⟨r46, h1, h⟩ := bnd1_e h
      replace h := (grd_e h).2
      obtain ⟨r61, h1, h⟩ := bnd1_e h
      obtain ⟨σ67, h1, h⟩ := bnd1_e h
      have F := F.c (fm_Mo_casts h1) (by decide) (by decide)
      obtain ⟨v70, -, h⟩ := letv_e h
      exact F.t (ih _ _ _ h)
set_option maxHeartbeats 4000000 in
theorem fm_Mo_castsNear {N : Nat} {σ : Mem} {a1 : Int32} {a2 : Int32} {σ' : Mem} (h : f_Mo_castsNear N σ a1 a2 = some σ') : Fr [86] [] σ σ' := by
  have F := Fr.rf [86] [] σ
  unfold f_Mo_castsNear at h
  replace h := (grd_e h).2
  obtain ⟨v9, e_v9, h⟩ := letv_e h
  replace h := (grd_e h).2
  obtain ⟨v19, e_v19, h⟩ := letv_e h
  exact F.t (fmL_Mo_castsNear_l24 _ _ _ _ h)
set_option maxHeartbeats 4000000 in
theorem fmL_Mo_laysHour_l2 {N : Nat} {a1 : Int32} : ∀ (k : Nat) (x2 : Int32) (σ : Mem) (res : Mem), L_Mo_laysHour_l2 N a1 k x2 σ = some res → Fr [84, 85, 86, 87] [] σ (res) := by
  intro k
  induction k with
  | zero => intro x2 σ res h; cases h
  | succ k ih =>
    intro x2 σ res h
    have F := Fr.rf [84, 85, 86, 87] [] σ
    replace h : B_Mo_laysHour_l2 N a1 (L_Mo_laysHour_l2 N a1 k) x2 σ = some res := h
    unfold B_Mo_laysHour_l2 at h
    rcases ite_or h with h | h
    · cases h
      exact F
    · replace h := (grd_e h).2
      obtain ⟨σ21, e_σ21, h⟩ := letv_e h
      have F := F.aI e_σ21 (by decide)
      obtain ⟨v22, -, h⟩ := letv_e h
      exact F.t (ih _ _ _ h)
set_option maxHeartbeats 4000000 in
theorem fmL_Mo_laysHour_l64 {N : Nat} {a1 : Int32} {a2 : Int32} {a3 : Int32} : ∀ (k : Nat) (x4 : Int32) (σ : Mem) (res : Mem), L_Mo_laysHour_l64 N a1 a2 a3 k x4 σ = some res → Fr [84, 85, 86, 87] [] σ (res) := by
  intro k
  induction k with
  | zero => intro x4 σ res h; cases h
  | succ k ih =>
    intro x4 σ res h
    have F := Fr.rf [84, 85, 86, 87] [] σ
    replace h : B_Mo_laysHour_l64 N a1 a2 a3 (L_Mo_laysHour_l64 N a1 a2 a3 k) x4 σ = some res := h
    unfold B_Mo_laysHour_l64 at h
    rcases ite_or h with h | h
    · cases h
      exact F
    · obtain ⟨r79, h1, h⟩ := bnd1_e h
      obtain ⟨s82, h1, h⟩ := bnd1_e h
      have J82_118 : ∀ (σ82_ : Mem), s82 = σ82_ → Fr [84, 85, 86, 87] [] σ σ82_ → Fr [84, 85, 86, 87] [] σ (res) := by
        intro σ82_ he F
        rw [he] at h
        obtain ⟨v118, -, h⟩ := letv_e h
        exact F.t (ih _ _ _ h)
      replace h := h1
      rcases ite_or h with h | h
      · exact J82_118 _ (Option.some.inj h).symm F
      · replace h := (grd_e h).2
        rcases ite_or h with h | h
        · obtain ⟨σ103, h1, h⟩ := bnd1_e h
          have F := F.c (fm_Mo_castsNear h1) (by decide) (by decide)
          exact J82_118 _ (Option.some.inj h).symm F
        · obtain ⟨σ115, h1, h⟩ := bnd1_e h
          have F := F.c (fm_Mo_castsFar h1) (by decide) (by decide)
          exact J82_118 _ (Option.some.inj h).symm F
set_option maxHeartbeats 4000000 in
theorem fmL_Mo_laysHour_l127 {N : Nat} {a1 : Int32} : ∀ (k : Nat) (x4 : Int32) (σ : Mem) (res : Mem), L_Mo_laysHour_l127 N a1 k x4 σ = some res → Fr [84, 85, 86, 87] [] σ (res) := by
  intro k
  induction k with
  | zero => intro x4 σ res h; cases h
  | succ k ih =>
    intro x4 σ res h
    have F := Fr.rf [84, 85, 86, 87] [] σ
    replace h : B_Mo_laysHour_l127 N a1 (L_Mo_laysHour_l127 N a1 k) x4 σ = some res := h
    unfold B_Mo_laysHour_l127 at h
    rcases ite_or h with h | h
    · cases h
      exact F
    · replace h := (grd_e h).2
      obtain ⟨s142, h1, h⟩ := bnd1_e h
      have J142_159 : ∀ (σ142_ : Mem), s142 = σ142_ → Fr [84, 85, 86, 87] [] σ σ142_ → Fr [84, 85, 86, 87] [] σ (res) := by
        intro σ142_ he F
        rw [he] at h
        obtain ⟨v159, -, h⟩ := letv_e h
        exact F.t (ih _ _ _ h)
      replace h := h1
      rcases ite_or h with h | h
      · replace h := (grd_e h).2
        obtain ⟨σ158, e_σ158, h⟩ := letv_e h
        have F := F.aI e_σ158 (by decide)
        exact J142_159 _ (Option.some.inj h).symm F
      · exact J142_159 _ (Option.some.inj h).symm F
set_option maxHeartbeats 4000000 in
theorem fm_Mo_laysHour {N : Nat} {σ : Mem} {a1 : Int32} {σ' : Mem} (h : f_Mo_laysHour N σ a1 = some σ') : Fr [84, 85, 86, 87] [] σ σ' := by
  have F := Fr.rf [84, 85, 86, 87] [] σ
  unfold f_Mo_laysHour at h
  obtain ⟨σ2_, h1, h⟩ := bnd1_e h
  have F := F.t (fmL_Mo_laysHour_l2 _ _ _ _ h1)
  have F : Fr [84, 85, 86, 87] [] σ σ2_ := F
  obtain ⟨r35, σ35, h1, h⟩ := bnd2_e h
  have F := F.c (fm_Mo_isUp h1) (by decide) (by decide)
  replace h := (grd_e h).2
  obtain ⟨σ38, e_σ38, h⟩ := letv_e h
  have F := F.aI e_σ38 (by decide)
  replace h := (grd_e h).2
  rcases ite_or h with h | h
  · cases h
    exact F
  · obtain ⟨r51, σ51, h1, h⟩ := bnd2_e h
    have F := F.c (fm_Mo_eastOf h1) (by decide) (by decide)
    obtain ⟨r57, σ57, h1, h⟩ := bnd2_e h
    have F := F.c (fm_Mo_northOf h1) (by decide) (by decide)
    obtain ⟨σ64_, h1, h⟩ := bnd1_e h
    have F := F.t (fmL_Mo_laysHour_l64 _ _ _ _ h1)
    have F : Fr [84, 85, 86, 87] [] σ σ64_ := F
    exact F.t (fmL_Mo_laysHour_l127 _ _ _ _ h)
set_option maxHeartbeats 4000000 in
theorem fmL_Mo_laysDay_l6 {N : Nat} : ∀ (k : Nat) (x1 : Int32) (σ : Mem) (res : Mem), L_Mo_laysDay_l6 N k x1 σ = some res → Fr [84, 85, 86, 87, 88] [(65, 37)] σ (res) := by
  intro k
  induction k with
  | zero => intro x1 σ res h; cases h
  | succ k ih =>
    intro x1 σ res h
    have F := Fr.rf [84, 85, 86, 87, 88] [(65, 37)] σ
    replace h : B_Mo_laysDay_l6 N (L_Mo_laysDay_l6 N k) x1 σ = some res := h
    unfold B_Mo_laysDay_l6 at h
    rcases ite_or h with h | h
    · cases h
      exact F
    · obtain ⟨σ14, h1, h⟩ := bnd1_e h
      have F := F.c (fm_Mo_laysHour h1) (by decide) (by decide)
      obtain ⟨v17, -, h⟩ := letv_e h
      exact F.t (ih _ _ _ h)
set_option maxHeartbeats 4000000 in
theorem fm_Mo_laysDay {N : Nat} {σ : Mem} {σ' : Mem} (h : f_Mo_laysDay N σ = some σ') : Fr [84, 85, 86, 87, 88] [(65, 37)] σ σ' := by
  have F := Fr.rf [84, 85, 86, 87, 88] [(65, 37)] σ
  unfold f_Mo_laysDay at h
  obtain ⟨σ1, h1, h⟩ := bnd1_e h
  have F := F.c (fm_Mo_laysFree h1) (by decide) (by decide)
  exact F.t (fmL_Mo_laysDay_l6 _ _ _ _ h)
set_option maxHeartbeats 4000000 in
theorem fm_Mo_shade {N : Nat} {σ : Mem} {a1 : Int32} {a2 : Int32} {a3 : Int32} {r : Int32} {σ' : Mem} (h : f_Mo_shade N σ a1 a2 a3 = some (r, σ')) : Fr [84, 85, 86, 87, 88] [(65, 37)] σ σ' := by
  have F := Fr.rf [84, 85, 86, 87, 88] [(65, 37)] σ
  unfold f_Mo_shade at h
  obtain ⟨r2, h1, h⟩ := bnd1_e h
  rcases ite_or h with h | h
  · cases h
    exact F
  · obtain ⟨r9, h1, h⟩ := bnd1_e h
    rcases ite_or h with h | h
    · cases h
      exact F
    · obtain ⟨σ18, h1, h⟩ := bnd1_e h
      have F := F.c (fm_Mo_laysDay h1) (by decide) (by decide)
      obtain ⟨r29, h1, h⟩ := bnd1_e h
      cases h
      exact F
set_option maxHeartbeats 4000000 in
theorem fm_Mo_priceOf {N : Nat} {σ : Mem} {a1 : Int32} {a2 : Int32} {r : Int32} {σ' : Mem} (h : f_Mo_priceOf N σ a1 a2 = some (r, σ')) : Fr [84, 85] [] σ σ' := by
  have F := Fr.rf [84, 85] [] σ
  unfold f_Mo_priceOf at h
  obtain ⟨σ2, h1, h⟩ := bnd1_e h
  have F := F.c (fm_Mo_feels h1) (by decide) (by decide)
  obtain ⟨σ14, e_σ14, h⟩ := letv_e h
  have F := F.aI e_σ14 (by decide)
  obtain ⟨σ24, e_σ24, h⟩ := letv_e h
  have F := F.aI e_σ24 (by decide)
  obtain ⟨r33, h1, h⟩ := bnd1_e h
  obtain ⟨r36, h1, h⟩ := bnd1_e h
  obtain ⟨σ39, e_σ39, h⟩ := letv_e h
  have F := F.aI e_σ39 (by decide)
  obtain ⟨r46, σ46, h1, h⟩ := bnd2_e h
  have F := F.c (fm_Mo_byLaw h1) (by decide) (by decide)
  cases h
  exact F
set_option maxHeartbeats 4000000 in
theorem fm_Mo_price {N : Nat} {σ : Mem} {a1 : Int32} {a2 : Int32} {a3 : Int32} {r : Int32} {σ' : Mem} (h : f_Mo_price N σ a1 a2 a3 = some (r, σ')) : Fr [84, 85, 86, 87, 88] [(65, 37)] σ σ' := by
  have F := Fr.rf [84, 85, 86, 87, 88] [(65, 37)] σ
  unfold f_Mo_price at h
  obtain ⟨r2, h1, h⟩ := bnd1_e h
  rcases ite_or h with h | h
  · cases h
    exact F
  · obtain ⟨r9, h1, h⟩ := bnd1_e h
    rcases ite_or h with h | h
    · cases h
      exact F
    · obtain ⟨σ18, h1, h⟩ := bnd1_e h
      have F := F.c (fm_Mo_laysDay h1) (by decide) (by decide)
      obtain ⟨r29, σ29, h1, h⟩ := bnd2_e h
      have F := F.c (fm_Mo_priceOf h1) (by decide) (by decide)
      cases h
      exact F
set_option maxHeartbeats 4000000 in
theorem fmL_Mo_cast_l29 {N : Nat} {a1 : Int32} {a2 : Int32} : ∀ (k : Nat) (x3 : Int32) (x4 : Int32) (σ : Mem) (res : Int32 × Mem), L_Mo_cast_l29 N a1 a2 k x3 x4 σ = some res → Fr [84, 85, 86, 87, 88] [(65, 37)] σ (res.2) := by
  intro k
  induction k with
  | zero => intro x3 x4 σ res h; cases h
  | succ k ih =>
    intro x3 x4 σ res h
    have F := Fr.rf [84, 85, 86, 87, 88] [(65, 37)] σ
    replace h : B_Mo_cast_l29 N a1 a2 (L_Mo_cast_l29 N a1 a2 k) x3 x4 σ = some res := h
    unfold B_Mo_cast_l29 at h
    rcases ite_or h with h | h
    · cases h
      exact F
    · obtain ⟨s40, h1, h⟩ := bnd1_e h
      have J40_67 : ∀ (y40_3 : Int32), s40 = y40_3 → Fr [84, 85, 86, 87, 88] [(65, 37)] σ (res.2) := by
        intro y40_3 he
        rw [he] at h
        obtain ⟨v67, -, h⟩ := letv_e h
        exact F.t (ih _ _ _ _ h)
      replace h := h1
      obtain ⟨s40b, h1, h⟩ := bnd1_e h
      have J40b_53 : s40b = 0 → Fr [84, 85, 86, 87, 88] [(65, 37)] σ (res.2) := by
        intro he
        rw [he] at h
        replace h := ite_t rfl h
        replace h := (grd_e h).2
        obtain ⟨v66, e_v66, h⟩ := letv_e h
        exact J40_67 _ (Option.some.inj h).symm
      have J40b_67 : s40b = 1 → Fr [84, 85, 86, 87, 88] [(65, 37)] σ (res.2) := by
        intro he
        rw [he] at h
        replace h := ite_f (by decide) h
        exact J40_67 _ (Option.some.inj h).symm
      replace h := h1
      rcases ite_or h with h | h
      · exact J40b_53 (Option.some.inj h).symm
      · rcases ite_or h with h | h
        · exact J40b_53 (Option.some.inj h).symm
        · exact J40b_67 (Option.some.inj h).symm
set_option maxHeartbeats 4000000 in
theorem fm_Mo_cast {N : Nat} {σ : Mem} {a1 : Int32} {a2 : Int32} {r : Int32} {σ' : Mem} (h : f_Mo_cast N σ a1 a2 = some (r, σ')) : Fr [84, 85, 86, 87, 88] [(65, 37)] σ σ' := by
  have F := Fr.rf [84, 85, 86, 87, 88] [(65, 37)] σ
  unfold f_Mo_cast at h
  obtain ⟨r2, h1, h⟩ := bnd1_e h
  rcases ite_or h with h | h
  · cases h
    exact F
  · obtain ⟨r12, h1, h⟩ := bnd1_e h
    rcases ite_or h with h | h
    · cases h
      exact F
    · obtain ⟨σ21, h1, h⟩ := bnd1_e h
      have F := F.c (fm_Mo_laysDay h1) (by decide) (by decide)
      exact F.t (fmL_Mo_cast_l29 _ _ _ _ _ h)
set_option maxHeartbeats 4000000 in
theorem fm_Mo_led {N : Nat} {σ : Mem} {a1 : Int32} {a2 : Int32} {r : Int64} {σ' : Mem} (h : f_Mo_led N σ a1 a2 = some (r, σ')) : Fr [84, 85, 86, 87, 88] [(65, 37)] σ σ' := by
  have F := Fr.rf [84, 85, 86, 87, 88] [(65, 37)] σ
  unfold f_Mo_led at h
  obtain ⟨r3, h1, h⟩ := bnd1_e h
  rcases ite_or h with h | h
  · cases h
    exact F
  · obtain ⟨r12, h1, h⟩ := bnd1_e h
    rcases ite_or h with h | h
    · cases h
      exact F
    · obtain ⟨σ23, h1, h⟩ := bnd1_e h
      have F := F.c (fm_Mo_laysDay h1) (by decide) (by decide)
      obtain ⟨z31_3, h1, h⟩ := bnd1_e h
      obtain ⟨r91, h1, h⟩ := bnd1_e h
      rcases ite_or h with h | h
      · replace h := (grd_e h).2
        cases h
        exact F
      · replace h := (grd_e h).2
        cases h
        exact F
set_option maxHeartbeats 4000000 in
theorem fmL_Mo_laysLongest_l15 {N : Nat} {a1 : Int32} : ∀ (k : Nat) (x2 : Int32) (x3 : Int32) (σ : Mem) (res : Mem), L_Mo_laysLongest_l15 N a1 k x2 x3 σ = some res → Fr [] [(65, 38), (65, 39)] σ (res) := by
  intro k
  induction k with
  | zero => intro x2 x3 σ res h; cases h
  | succ k ih =>
    intro x2 x3 σ res h
    have F := Fr.rf [] [(65, 38), (65, 39)] σ
    replace h : B_Mo_laysLongest_l15 N a1 (L_Mo_laysLongest_l15 N a1 k) x2 x3 σ = some res := h
    unfold B_Mo_laysLongest_l15 at h
    rcases ite_or h with h | h
    · cases h
      exact F
    · obtain ⟨r24, h1, h⟩ := bnd1_e h
      obtain ⟨s27, h1, h⟩ := bnd1_e h
      have J27_37 : ∀ (y27_s0 : Int32), s27 = y27_s0 → Fr [] [(65, 38), (65, 39)] σ (res) := by
        intro y27_s0 he
        rw [he] at h
        obtain ⟨s43, h1, h⟩ := bnd1_e h
        have J43_63 : ∀ (σ43_ : Mem), s43 = σ43_ → Fr [] [(65, 38), (65, 39)] σ σ43_ → Fr [] [(65, 38), (65, 39)] σ (res) := by
          intro σ43_ he F
          rw [he] at h
          obtain ⟨v63, -, h⟩ := letv_e h
          exact F.t (ih _ _ _ _ h)
        replace h := h1
        rcases ite_or h with h | h
        · obtain ⟨σ51, e_σ51, h⟩ := letv_e h
          have F := F.fI e_σ51 (by decide)
          obtain ⟨σ60, e_σ60, h⟩ := letv_e h
          have F := F.fI e_σ60 (by decide)
          exact J43_63 _ (Option.some.inj h).symm F
        · exact J43_63 _ (Option.some.inj h).symm F
      replace h := h1
      rcases ite_or h with h | h
      · exact J27_37 _ (Option.some.inj h).symm
      · exact J27_37 _ (Option.some.inj h).symm
set_option maxHeartbeats 4000000 in
theorem fm_Mo_laysLongest {N : Nat} {σ : Mem} {a1 : Int32} {σ' : Mem} (h : f_Mo_laysLongest N σ a1 = some σ') : Fr [] [(65, 38), (65, 39)] σ σ' := by
  have F := Fr.rf [] [(65, 38), (65, 39)] σ
  unfold f_Mo_laysLongest at h
  obtain ⟨σ2, e_σ2, h⟩ := letv_e h
  have F := F.fI e_σ2 (by decide)
  obtain ⟨σ8, e_σ8, h⟩ := letv_e h
  have F := F.fI e_σ8 (by decide)
  exact F.t (fmL_Mo_laysLongest_l15 _ _ _ _ _ h)
set_option maxHeartbeats 4000000 in
theorem fm_Mo_longest {N : Nat} {σ : Mem} {a1 : Int32} {a2 : Int32} {a3 : Int32} {r : Int32} {σ' : Mem} (h : f_Mo_longest N σ a1 a2 a3 = some (r, σ')) : Fr [84, 85, 86, 87, 88] [(65, 37), (65, 38), (65, 39)] σ σ' := by
  have F := Fr.rf [84, 85, 86, 87, 88] [(65, 37), (65, 38), (65, 39)] σ
  unfold f_Mo_longest at h
  obtain ⟨r2, h1, h⟩ := bnd1_e h
  rcases ite_or h with h | h
  · cases h
    exact F
  · obtain ⟨r11, h1, h⟩ := bnd1_e h
    rcases ite_or h with h | h
    · cases h
      exact F
    · obtain ⟨σ20, h1, h⟩ := bnd1_e h
      have F := F.c (fm_Mo_laysDay h1) (by decide) (by decide)
      obtain ⟨σ30, h1, h⟩ := bnd1_e h
      have F := F.c (fm_Mo_laysLongest h1) (by decide) (by decide)
      rcases ite_or h with h | h
      · cases h
        exact F
      · cases h
        exact F
set_option maxHeartbeats 4000000 in
theorem fmL_Mo_donkey_l24 {N : Nat} {a1 : Int32} : ∀ (k : Nat) (x2 : Int32) (x3 : Int32) (x4 : Int32) (σ : Mem) (res : Int32 × Int32 × Mem), L_Mo_donkey_l24 N a1 k x2 x3 x4 σ = some res → Fr [84, 85, 86, 87, 88] [(65, 37), (65, 38), (65, 39)] σ (res.2.2) := by
  intro k
  induction k with
  | zero => intro x2 x3 x4 σ res h; cases h
  | succ k ih =>
    intro x2 x3 x4 σ res h
    have F := Fr.rf [84, 85, 86, 87, 88] [(65, 37), (65, 38), (65, 39)] σ
    replace h : B_Mo_donkey_l24 N a1 (L_Mo_donkey_l24 N a1 k) x2 x3 x4 σ = some res := h
    unfold B_Mo_donkey_l24 at h
    rcases ite_or h with h | h
    · cases h
      exact F
    · replace h := (grd_e h).2
      obtain ⟨s39, h1, h⟩ := bnd1_e h
      have J39_83 : ∀ (y39_2 : Int32) (y39_3 : Int32) (σ39_ : Mem), s39 = (y39_2, y39_3, σ39_) → Fr [84, 85, 86, 87, 88] [(65, 37), (65, 38), (65, 39)] σ σ39_ → Fr [84, 85, 86, 87, 88] [(65, 37), (65, 38), (65, 39)] σ (res.2.2) := by
        intro y39_2 y39_3 σ39_ he F
        rw [he] at h
        replace h := q3_e h
        obtain ⟨v83, -, h⟩ := letv_e h
        exact F.t (ih _ _ _ _ _ h)
      replace h := h1
      rcases ite_or h with h | h
      · exact J39_83 _ _ _ (Option.some.inj h).symm F
      · replace h := (grd_e h).2
        rcases ite_or h with h | h
        · obtain ⟨σ61, h1, h⟩ := bnd1_e h
          have F := F.c (fm_Mo_laysLongest h1) (by decide) (by decide)
          rcases ite_or h with h | h
          · obtain ⟨v79, e_v79, h⟩ := letv_e h
            exact J39_83 _ _ _ (Option.some.inj h).symm F
          · exact J39_83 _ _ _ (Option.some.inj h).symm F
        · exact J39_83 _ _ _ (Option.some.inj h).symm F
set_option maxHeartbeats 4000000 in
theorem fm_Mo_donkey {N : Nat} {σ : Mem} {a1 : Int32} {r : Int32} {σ' : Mem} (h : f_Mo_donkey N σ a1 = some (r, σ')) : Fr [84, 85, 86, 87, 88] [(65, 37), (65, 38), (65, 39)] σ σ' := by
  have F := Fr.rf [84, 85, 86, 87, 88] [(65, 37), (65, 38), (65, 39)] σ
  unfold f_Mo_donkey at h
  obtain ⟨r3, h1, h⟩ := bnd1_e h
  rcases ite_or h with h | h
  · cases h
    exact F
  · obtain ⟨σ12, h1, h⟩ := bnd1_e h
    have F := F.c (fm_Mo_laysDay h1) (by decide) (by decide)
    obtain ⟨x24_, h1, h⟩ := bnd1_e h
    have F := F.t (fmL_Mo_donkey_l24 _ _ _ _ _ _ h1)
    obtain ⟨z24_2, z24_3, σ24_⟩ := x24_
    replace h := q3_e h
    have F : Fr [84, 85, 86, 87, 88] [(65, 37), (65, 38), (65, 39)] σ σ24_ := F
    rcases ite_or h with h | h
    · cases h
      exact F
    · rcases ite_or h with h | h
      · cases h
        exact F
      · cases h
        exact F
set_option maxHeartbeats 4000000 in
theorem fmL_Mo_laysStrip_l11 {N : Nat} {a1 : Int32} {a2 : Int32} {a3 : Int32} : ∀ (k : Nat) (x4 : Int32) (σ : Mem) (res : Mem), L_Mo_laysStrip_l11 N a1 a2 a3 k x4 σ = some res → Fr [84, 85, 89] [] σ (res) := by
  intro k
  induction k with
  | zero => intro x4 σ res h; cases h
  | succ k ih =>
    intro x4 σ res h
    have F := Fr.rf [84, 85, 89] [] σ
    replace h : B_Mo_laysStrip_l11 N a1 a2 a3 (L_Mo_laysStrip_l11 N a1 a2 a3 k) x4 σ = some res := h
    unfold B_Mo_laysStrip_l11 at h
    rcases ite_or h with h | h
    · cases h
      exact F
    · obtain ⟨s23, h1, h⟩ := bnd1_e h
      have J23_33 : ∀ (y23_s0 : Int32), s23 = y23_s0 → Fr [84, 85, 89] [] σ (res) := by
        intro y23_s0 he
        rw [he] at h
        obtain ⟨z38_5, h1, h⟩ := bnd1_e h
        obtain ⟨r86, h1, h⟩ := bnd1_e h
        obtain ⟨s89, h1, h⟩ := bnd1_e h
        have J89_105 : ∀ (y89_s0 : Int32), s89 = y89_s0 → Fr [84, 85, 89] [] σ (res) := by
          intro y89_s0 he
          rw [he] at h
          obtain ⟨s121, h1, h⟩ := bnd1_e h
          have J121_145 : ∀ (y121_s2 : Int32) (σ121_ : Mem), s121 = (y121_s2, σ121_) → Fr [84, 85, 89] [] σ σ121_ → Fr [84, 85, 89] [] σ (res) := by
            intro y121_s2 σ121_ he F
            rw [he] at h
            replace h := q2_e h
            replace h := (grd_e h).2
            obtain ⟨σ145, e_σ145, h⟩ := letv_e h
            have F := F.aI e_σ145 (by decide)
            obtain ⟨v146, -, h⟩ := letv_e h
            exact F.t (ih _ _ _ h)
          replace h := h1
          rcases ite_or h with h | h
          · exact J121_145 _ _ (Option.some.inj h).symm F
          · obtain ⟨r134, σ134, h1, h⟩ := bnd2_e h
            have F := F.c (fm_Mo_priceOf h1) (by decide) (by decide)
            exact J121_145 _ _ (Option.some.inj h).symm F
        replace h := h1
        obtain ⟨s89b, h1, h⟩ := bnd1_e h
        have J89b_104 : s89b = 0 → Fr [84, 85, 89] [] σ (res) := by
          intro he
          rw [he] at h
          replace h := ite_t rfl h
          exact J89_105 _ (Option.some.inj h).symm
        have J89b_100 : s89b = 1 → Fr [84, 85, 89] [] σ (res) := by
          intro he
          rw [he] at h
          replace h := ite_f (by decide) h
          exact J89_105 _ (Option.some.inj h).symm
        replace h := h1
        rcases ite_or h with h | h
        · exact J89b_104 (Option.some.inj h).symm
        · rcases ite_or h with h | h
          · exact J89b_104 (Option.some.inj h).symm
          · exact J89b_100 (Option.some.inj h).symm
      replace h := h1
      rcases ite_or h with h | h
      · exact J23_33 _ (Option.some.inj h).symm
      · exact J23_33 _ (Option.some.inj h).symm
set_option maxHeartbeats 4000000 in
theorem fmL_Mo_laysStrip_l4 {N : Nat} {a1 : Int32} {a2 : Int32} : ∀ (k : Nat) (x3 : Int32) (σ : Mem) (res : Mem), L_Mo_laysStrip_l4 N a1 a2 k x3 σ = some res → Fr [84, 85, 89] [] σ (res) := by
  intro k
  induction k with
  | zero => intro x3 σ res h; cases h
  | succ k ih =>
    intro x3 σ res h
    have F := Fr.rf [84, 85, 89] [] σ
    replace h : B_Mo_laysStrip_l4 N a1 a2 (L_Mo_laysStrip_l4 N a1 a2 k) x3 σ = some res := h
    unfold B_Mo_laysStrip_l4 at h
    rcases ite_or h with h | h
    · cases h
      exact F
    · obtain ⟨σ11_, h1, h⟩ := bnd1_e h
      have F := F.t (fmL_Mo_laysStrip_l11 _ _ _ _ h1)
      have F : Fr [84, 85, 89] [] σ σ11_ := F
      obtain ⟨v152, -, h⟩ := letv_e h
      exact F.t (ih _ _ _ h)
set_option maxHeartbeats 4000000 in
theorem fm_Mo_laysStrip {N : Nat} {σ : Mem} {a1 : Int32} {a2 : Int32} {σ' : Mem} (h : f_Mo_laysStrip N σ a1 a2 = some σ') : Fr [84, 85, 89] [] σ σ' := by
  have F := Fr.rf [84, 85, 89] [] σ
  unfold f_Mo_laysStrip at h
  obtain ⟨v3, e_v3, h⟩ := letv_e h
  exact F.t (fmL_Mo_laysStrip_l4 _ _ _ _ h)
set_option maxHeartbeats 4000000 in
theorem fmL_Mo_strip_l144 {N : Nat} {a1 : Int32} {a3 : Int32} : ∀ (k : Nat) (x5 : Int32) (x6 : Int32) (x7 : Int32) (σ : Mem) (res : Int32 × Mem), L_Mo_strip_l144 N a1 a3 k x5 x6 x7 σ = some res → Fr [84, 85, 86, 87, 88, 89] [(65, 37)] σ (res.2) := by
  intro k
  induction k with
  | zero => intro x5 x6 x7 σ res h; cases h
  | succ k ih =>
    intro x5 x6 x7 σ res h
    have F := Fr.rf [84, 85, 86, 87, 88, 89] [(65, 37)] σ
    replace h : B_Mo_strip_l144 N a1 a3 (L_Mo_strip_l144 N a1 a3 k) x5 x6 x7 σ = some res := h
    unfold B_Mo_strip_l144 at h
    rcases ite_or h with h | h
    · cases h
      exact F
    · obtain ⟨r159, h1, h⟩ := bnd1_e h
      replace h := (grd_e h).2
      obtain ⟨r187, σ187, h1, h⟩ := bnd2_e h
      have F := F.c (fm_Mo_priceOf h1) (by decide) (by decide)
      obtain ⟨v192, e_v192, h⟩ := letv_e h
      obtain ⟨v194, -, h⟩ := letv_e h
      exact F.t (ih _ _ _ _ _ h)
set_option maxHeartbeats 4000000 in
theorem fm_Mo_strip {N : Nat} {σ : Mem} {a1 : Int32} {a2 : Int32} {a3 : Int32} {r : Int32} {σ' : Mem} (h : f_Mo_strip N σ a1 a2 a3 = some (r, σ')) : Fr [84, 85, 86, 87, 88, 89] [(65, 37)] σ σ' := by
  have F := Fr.rf [84, 85, 86, 87, 88, 89] [(65, 37)] σ
  unfold f_Mo_strip at h
  obtain ⟨r1, h1, h⟩ := bnd1_e h
  obtain ⟨s4b, h1, h⟩ := bnd1_e h
  have J4b_49 : s4b = 0 → Fr [84, 85, 86, 87, 88, 89] [(65, 37)] σ σ' := by
    intro he
    rw [he] at h
    replace h := ite_t rfl h
    cases h
    exact F
  have J4b_52 : s4b = 1 → Fr [84, 85, 86, 87, 88, 89] [(65, 37)] σ σ' := by
    intro he
    rw [he] at h
    replace h := ite_f (by decide) h
    obtain ⟨σ53, h1, h⟩ := bnd1_e h
    have F := F.c (fm_Mo_laysDay h1) (by decide) (by decide)
    obtain ⟨v59, e_v59, h⟩ := letv_e h
    obtain ⟨σ65, h1, h⟩ := bnd1_e h
    have F := F.c (fm_Mo_laysStrip h1) (by decide) (by decide)
    obtain ⟨z76_5, h1, h⟩ := bnd1_e h
    rcases ite_or h with h | h
    · rcases ite_or h with h | h
      · cases h
        exact F
      · rcases ite_or h with h | h
        · cases h
          exact F
        · exact F.t (fmL_Mo_strip_l144 _ _ _ _ _ _ h)
    · cases h
      exact F
  replace h := h1
  rcases ite_or h with h | h
  · exact J4b_49 (Option.some.inj h).symm
  · obtain ⟨r13, h1, h⟩ := bnd1_e h
    rcases ite_or h with h | h
    · exact J4b_49 (Option.some.inj h).symm
    · rcases ite_or h with h | h
      · exact J4b_49 (Option.some.inj h).symm
      · rcases ite_or h with h | h
        · exact J4b_52 (Option.some.inj h).symm
        · rcases ite_or h with h | h
          · exact J4b_52 (Option.some.inj h).symm
          · obtain ⟨r43, h1, h⟩ := bnd1_e h
            rcases ite_or h with h | h
            · exact J4b_49 (Option.some.inj h).symm
            · exact J4b_52 (Option.some.inj h).symm
set_option maxHeartbeats 4000000 in
theorem fmL_Mo_laysLeastSun_l16 {N : Nat} {a1 : Int32} {a2 : Int32} {a3 : Int32} : ∀ (k : Nat) (x4 : Int32) (σ : Mem) (res : Mem), L_Mo_laysLeastSun_l16 N a1 a2 a3 k x4 σ = some res → Fr [92, 93] [(65, 45), (65, 46)] σ (res) := by
  intro k
  induction k with
  | zero => intro x4 σ res h; cases h
  | succ k ih =>
    intro x4 σ res h
    have F := Fr.rf [92, 93] [(65, 45), (65, 46)] σ
    replace h : B_Mo_laysLeastSun_l16 N a1 a2 a3 (L_Mo_laysLeastSun_l16 N a1 a2 a3 k) x4 σ = some res := h
    unfold B_Mo_laysLeastSun_l16 at h
    rcases ite_or h with h | h
    · cases h
      exact F
    · obtain ⟨s33, h1, h⟩ := bnd1_e h
      have J33_43 : ∀ (y33_s2 : Int32), s33 = y33_s2 → Fr [92, 93] [(65, 45), (65, 46)] σ (res) := by
        intro y33_s2 he
        rw [he] at h
        replace h := (grd_e h).2
        obtain ⟨σ43, e_σ43, h⟩ := letv_e h
        have F := F.aI e_σ43 (by decide)
        obtain ⟨v44, -, h⟩ := letv_e h
        exact F.t (ih _ _ _ h)
      replace h := h1
      rcases ite_or h with h | h
      · exact J33_43 _ (Option.some.inj h).symm
      · exact J33_43 _ (Option.some.inj h).symm
set_option maxHeartbeats 4000000 in
theorem fmL_Mo_laysLeastSun_l102 {N : Nat} {a2 : Int32} {a3 : Int32} {a4 : Int32} {a5 : Int32} : ∀ (k : Nat) (x6 : Int32) (σ : Mem) (res : Mem), L_Mo_laysLeastSun_l102 N a2 a3 a4 a5 k x6 σ = some res → Fr [92, 93] [(65, 45), (65, 46)] σ (res) := by
  intro k
  induction k with
  | zero => intro x6 σ res h; cases h
  | succ k ih =>
    intro x6 σ res h
    have F := Fr.rf [92, 93] [(65, 45), (65, 46)] σ
    replace h : B_Mo_laysLeastSun_l102 N a2 a3 a4 a5 (L_Mo_laysLeastSun_l102 N a2 a3 a4 a5 k) x6 σ = some res := h
    unfold B_Mo_laysLeastSun_l102 at h
    rcases ite_or h with h | h
    · cases h
      exact F
    · replace h := (grd_e h).2
      obtain ⟨s117, h1, h⟩ := bnd1_e h
      have J117_132 : ∀ (y117_s0 : Int32), s117 = y117_s0 → Fr [92, 93] [(65, 45), (65, 46)] σ (res) := by
        intro y117_s0 he
        rw [he] at h
        obtain ⟨s145, h1, h⟩ := bnd1_e h
        have J145_173 : ∀ (y145_s2 : Int32), s145 = y145_s2 → Fr [92, 93] [(65, 45), (65, 46)] σ (res) := by
          intro y145_s2 he
          rw [he] at h
          replace h := (grd_e h).2
          obtain ⟨σ173, e_σ173, h⟩ := letv_e h
          have F := F.aI e_σ173 (by decide)
          obtain ⟨v174, -, h⟩ := letv_e h
          exact F.t (ih _ _ _ h)
        replace h := h1
        rcases ite_or h with h | h
        · obtain ⟨r161, h1, h⟩ := bnd1_e h
          obtain ⟨s164, h1, h⟩ := bnd1_e h
          have J164_172 : ∀ (y164_s3 : Int32), s164 = y164_s3 → Fr [92, 93] [(65, 45), (65, 46)] σ (res) := by
            intro y164_s3 he
            rw [he] at h
            exact J145_173 _ (Option.some.inj h).symm
          replace h := h1
          rcases ite_or h with h | h
          · exact J164_172 _ (Option.some.inj h).symm
          · exact J164_172 _ (Option.some.inj h).symm
        · exact J145_173 _ (Option.some.inj h).symm
      replace h := h1
      rcases ite_or h with h | h
      · exact J117_132 _ (Option.some.inj h).symm
      · obtain ⟨r123, h1, h⟩ := bnd1_e h
        exact J117_132 _ (Option.some.inj h).symm
set_option maxHeartbeats 4000000 in
theorem fmL_Mo_laysLeastSun_l183 {N : Nat} {a2 : Int32} {a3 : Int32} {a4 : Int32} : ∀ (k : Nat) (x6 : Int32) (σ : Mem) (res : Mem), L_Mo_laysLeastSun_l183 N a2 a3 a4 k x6 σ = some res → Fr [92, 93] [(65, 45), (65, 46)] σ (res) := by
  intro k
  induction k with
  | zero => intro x6 σ res h; cases h
  | succ k ih =>
    intro x6 σ res h
    have F := Fr.rf [92, 93] [(65, 45), (65, 46)] σ
    replace h : B_Mo_laysLeastSun_l183 N a2 a3 a4 (L_Mo_laysLeastSun_l183 N a2 a3 a4 k) x6 σ = some res := h
    unfold B_Mo_laysLeastSun_l183 at h
    rcases ite_or h with h | h
    · cases h
      exact F
    · replace h := (grd_e h).2
      replace h := (grd_e h).2
      obtain ⟨σ204, e_σ204, h⟩ := letv_e h
      have F := F.aI e_σ204 (by decide)
      obtain ⟨v205, -, h⟩ := letv_e h
      exact F.t (ih _ _ _ h)
set_option maxHeartbeats 4000000 in
theorem fmL_Mo_laysLeastSun_l53 {N : Nat} {a2 : Int32} {a3 : Int32} : ∀ (k : Nat) (x4 : Int32) (σ : Mem) (res : Mem), L_Mo_laysLeastSun_l53 N a2 a3 k x4 σ = some res → Fr [92, 93] [(65, 45), (65, 46)] σ (res) := by
  intro k
  induction k with
  | zero => intro x4 σ res h; cases h
  | succ k ih =>
    intro x4 σ res h
    have F := Fr.rf [92, 93] [(65, 45), (65, 46)] σ
    replace h : B_Mo_laysLeastSun_l53 N a2 a3 (L_Mo_laysLeastSun_l53 N a2 a3 k) x4 σ = some res := h
    unfold B_Mo_laysLeastSun_l53 at h
    rcases ite_or h with h | h
    · cases h
      exact F
    · replace h := (grd_e h).2
      obtain ⟨s70, h1, h⟩ := bnd1_e h
      have J70_89 : ∀ (σ70_ : Mem), s70 = σ70_ → Fr [92, 93] [(65, 45), (65, 46)] σ σ70_ → Fr [92, 93] [(65, 45), (65, 46)] σ (res) := by
        intro σ70_ he F
        rw [he] at h
        obtain ⟨r94, h1, h⟩ := bnd1_e h
        obtain ⟨σ102_, h1, h⟩ := bnd1_e h
        have F := F.t (fmL_Mo_laysLeastSun_l102 _ _ _ _ h1)
        have F : Fr [92, 93] [(65, 45), (65, 46)] σ σ102_ := F
        obtain ⟨σ183_, h1, h⟩ := bnd1_e h
        have F := F.t (fmL_Mo_laysLeastSun_l183 _ _ _ _ h1)
        have F : Fr [92, 93] [(65, 45), (65, 46)] σ σ183_ := F
        obtain ⟨v211, -, h⟩ := letv_e h
        exact F.t (ih _ _ _ h)
      replace h := h1
      rcases ite_or h with h | h
      · exact J70_89 _ (Option.some.inj h).symm F
      · replace h := (grd_e h).2
        obtain ⟨σ80, e_σ80, h⟩ := letv_e h
        have F := F.fI e_σ80 (by decide)
        obtain ⟨σ86, e_σ86, h⟩ := letv_e h
        have F := F.fI e_σ86 (by decide)
        exact J70_89 _ (Option.some.inj h).symm F
set_option maxHeartbeats 4000000 in
theorem fm_Mo_laysLeastSun {N : Nat} {σ : Mem} {a1 : Int32} {a2 : Int32} {a3 : Int32} {σ' : Mem} (h : f_Mo_laysLeastSun N σ a1 a2 a3 = some σ') : Fr [92, 93] [(65, 45), (65, 46)] σ σ' := by
  have F := Fr.rf [92, 93] [(65, 45), (65, 46)] σ
  unfold f_Mo_laysLeastSun at h
  obtain ⟨σ4, e_σ4, h⟩ := letv_e h
  have F := F.fI e_σ4 (by decide)
  obtain ⟨σ10, e_σ10, h⟩ := letv_e h
  have F := F.fI e_σ10 (by decide)
  obtain ⟨σ16_, h1, h⟩ := bnd1_e h
  have F := F.t (fmL_Mo_laysLeastSun_l16 _ _ _ _ h1)
  have F : Fr [92, 93] [(65, 45), (65, 46)] σ σ16_ := F
  exact F.t (fmL_Mo_laysLeastSun_l53 _ _ _ _ h)
set_option maxHeartbeats 4000000 in
theorem fmL_Mo_soonest_l3 {N : Nat} {a1 : Int32} {a2 : Int32} {a3 : Int32} : ∀ (k : Nat) (x4 : Int32) (σ : Mem) (res : Mem), L_Mo_soonest_l3 N a1 a2 a3 k x4 σ = some res → Fr [90, 91] [] σ (res) := by
  intro k
  induction k with
  | zero => intro x4 σ res h; cases h
  | succ k ih =>
    intro x4 σ res h
    have F := Fr.rf [90, 91] [] σ
    replace h : B_Mo_soonest_l3 N a1 a2 a3 (L_Mo_soonest_l3 N a1 a2 a3 k) x4 σ = some res := h
    unfold B_Mo_soonest_l3 at h
    rcases ite_or h with h | h
    · cases h
      exact F
    · obtain ⟨s20, h1, h⟩ := bnd1_e h
      have J20_28 : ∀ (y20_s2 : Int32), s20 = y20_s2 → Fr [90, 91] [] σ (res) := by
        intro y20_s2 he
        rw [he] at h
        replace h := (grd_e h).2
        obtain ⟨σ28, e_σ28, h⟩ := letv_e h
        have F := F.aI e_σ28 (by decide)
        obtain ⟨v29, -, h⟩ := letv_e h
        exact F.t (ih _ _ _ h)
      replace h := h1
      rcases ite_or h with h | h
      · exact J20_28 _ (Option.some.inj h).symm
      · exact J20_28 _ (Option.some.inj h).symm
set_option maxHeartbeats 4000000 in
theorem fmL_Mo_soonest_l60 {N : Nat} {a2 : Int32} {a3 : Int32} {a4 : Int32} : ∀ (k : Nat) (x5 : Int32) (σ : Mem) (res : Mem), L_Mo_soonest_l60 N a2 a3 a4 k x5 σ = some res → Fr [90, 91] [] σ (res) := by
  intro k
  induction k with
  | zero => intro x5 σ res h; cases h
  | succ k ih =>
    intro x5 σ res h
    have F := Fr.rf [90, 91] [] σ
    replace h : B_Mo_soonest_l60 N a2 a3 a4 (L_Mo_soonest_l60 N a2 a3 a4 k) x5 σ = some res := h
    unfold B_Mo_soonest_l60 at h
    rcases ite_or h with h | h
    · cases h
      exact F
    · replace h := (grd_e h).2
      obtain ⟨s81, h1, h⟩ := bnd1_e h
      have J81_115 : ∀ (y81_s2 : Int32), s81 = y81_s2 → Fr [90, 91] [] σ (res) := by
        intro y81_s2 he
        rw [he] at h
        replace h := (grd_e h).2
        obtain ⟨σ115, e_σ115, h⟩ := letv_e h
        have F := F.aI e_σ115 (by decide)
        obtain ⟨v116, -, h⟩ := letv_e h
        exact F.t (ih _ _ _ h)
      replace h := h1
      obtain ⟨s81b, h1, h⟩ := bnd1_e h
      have J81b_114 : s81b = 0 → Fr [90, 91] [] σ (res) := by
        intro he
        rw [he] at h
        replace h := ite_t rfl h
        exact J81_115 _ (Option.some.inj h).symm
      have J81b_110 : s81b = 1 → Fr [90, 91] [] σ (res) := by
        intro he
        rw [he] at h
        replace h := ite_f (by decide) h
        exact J81_115 _ (Option.some.inj h).symm
      replace h := h1
      rcases ite_or h with h | h
      · exact J81b_114 (Option.some.inj h).symm
      · obtain ⟨r90, h1, h⟩ := bnd1_e h
        obtain ⟨r95, h1, h⟩ := bnd1_e h
        rcases ite_or h with h | h
        · exact J81b_114 (Option.some.inj h).symm
        · obtain ⟨r104, h1, h⟩ := bnd1_e h
          rcases ite_or h with h | h
          · exact J81b_114 (Option.some.inj h).symm
          · exact J81b_110 (Option.some.inj h).symm
set_option maxHeartbeats 4000000 in
theorem fmL_Mo_soonest_l125 {N : Nat} {a2 : Int32} {a3 : Int32} {a4 : Int32} : ∀ (k : Nat) (x5 : Int32) (σ : Mem) (res : Mem), L_Mo_soonest_l125 N a2 a3 a4 k x5 σ = some res → Fr [90, 91] [] σ (res) := by
  intro k
  induction k with
  | zero => intro x5 σ res h; cases h
  | succ k ih =>
    intro x5 σ res h
    have F := Fr.rf [90, 91] [] σ
    replace h : B_Mo_soonest_l125 N a2 a3 a4 (L_Mo_soonest_l125 N a2 a3 a4 k) x5 σ = some res := h
    unfold B_Mo_soonest_l125 at h
    rcases ite_or h with h | h
    · cases h
      exact F
    · replace h := (grd_e h).2
      replace h := (grd_e h).2
      obtain ⟨σ146, e_σ146, h⟩ := letv_e h
      have F := F.aI e_σ146 (by decide)
      obtain ⟨v147, -, h⟩ := letv_e h
      exact F.t (ih _ _ _ h)
set_option maxHeartbeats 4000000 in
theorem fmL_Mo_soonest_l38 {N : Nat} {a2 : Int32} {a3 : Int32} : ∀ (k : Nat) (x4 : Int32) (σ : Mem) (res : Int32 × Mem), L_Mo_soonest_l38 N a2 a3 k x4 σ = some res → Fr [90, 91] [] σ (res.2) := by
  intro k
  induction k with
  | zero => intro x4 σ res h; cases h
  | succ k ih =>
    intro x4 σ res h
    have F := Fr.rf [90, 91] [] σ
    replace h : B_Mo_soonest_l38 N a2 a3 (L_Mo_soonest_l38 N a2 a3 k) x4 σ = some res := h
    unfold B_Mo_soonest_l38 at h
    rcases ite_or h with h | h
    · cases h
      exact F
    · replace h := (grd_e h).2
      rcases ite_or h with h | h
      · obtain ⟨σ60_, h1, h⟩ := bnd1_e h
        have F := F.t (fmL_Mo_soonest_l60 _ _ _ _ h1)
        have F : Fr [90, 91] [] σ σ60_ := F
        obtain ⟨σ125_, h1, h⟩ := bnd1_e h
        have F := F.t (fmL_Mo_soonest_l125 _ _ _ _ h1)
        have F : Fr [90, 91] [] σ σ125_ := F
        obtain ⟨v153, -, h⟩ := letv_e h
        exact F.t (ih _ _ _ h)
      · cases h
        exact F
set_option maxHeartbeats 4000000 in
theorem fm_Mo_soonest {N : Nat} {σ : Mem} {a1 : Int32} {a2 : Int32} {a3 : Int32} {r : Int32} {σ' : Mem} (h : f_Mo_soonest N σ a1 a2 a3 = some (r, σ')) : Fr [90, 91] [] σ σ' := by
  have F := Fr.rf [90, 91] [] σ
  unfold f_Mo_soonest at h
  obtain ⟨σ3_, h1, h⟩ := bnd1_e h
  have F := F.t (fmL_Mo_soonest_l3 _ _ _ _ h1)
  have F : Fr [90, 91] [] σ σ3_ := F
  exact F.t (fmL_Mo_soonest_l38 _ _ _ _ h)
set_option maxHeartbeats 4000000 in
theorem fm_Mo_walk {N : Nat} {σ : Mem} {a1 : Int32} {a2 : Int32} {a3 : Int32} {a4 : Int32} {r : Int32} {σ' : Mem} (h : f_Mo_walk N σ a1 a2 a3 a4 = some (r, σ')) : Fr [84, 85, 86, 87, 88, 90, 91, 92, 93] [(65, 37), (65, 45), (65, 46)] σ σ' := by
  have F := Fr.rf [84, 85, 86, 87, 88, 90, 91, 92, 93] [(65, 37), (65, 45), (65, 46)] σ
  unfold f_Mo_walk at h
  obtain ⟨r5, h1, h⟩ := bnd1_e h
  rcases ite_or h with h | h
  · cases h
    exact F
  · obtain ⟨r16, h1, h⟩ := bnd1_e h
    rcases ite_or h with h | h
    · cases h
      exact F
    · obtain ⟨r23, h1, h⟩ := bnd1_e h
      rcases ite_or h with h | h
      · cases h
        exact F
      · obtain ⟨r33, h1, h⟩ := bnd1_e h
        rcases ite_or h with h | h
        · cases h
          exact F
        · obtain ⟨r41, h1, h⟩ := bnd1_e h
          rcases ite_or h with h | h
          · cases h
            exact F
          · obtain ⟨r49, h1, h⟩ := bnd1_e h
            rcases ite_or h with h | h
            · cases h
              exact F
            · obtain ⟨σ58, h1, h⟩ := bnd1_e h
              have F := F.c (fm_Mo_laysDay h1) (by decide) (by decide)
              rcases ite_or h with h | h
              · obtain ⟨r70, σ70, h1, h⟩ := bnd2_e h
                have F := F.c (fm_Mo_soonest h1) (by decide) (by decide)
                cases h
                exact F
              · obtain ⟨σ78, h1, h⟩ := bnd1_e h
                have F := F.c (fm_Mo_laysLeastSun h1) (by decide) (by decide)
                rcases ite_or h with h | h
                · cases h
                  exact F
                · rcases ite_or h with h | h
                  · cases h
                    exact F
                  · cases h
                    exact F
set_option maxHeartbeats 4000000 in
theorem fm_Mo_buyer {σ : Mem} {a1 : Int32} {a2 : Int32} {a3 : Int32} {r : Int32} {σ' : Mem} (h : f_Mo_buyer σ a1 a2 a3 = some (r, σ')) : Fr [94] [(65, 47)] σ σ' := by
  have F := Fr.rf [94] [(65, 47)] σ
  unfold f_Mo_buyer at h
  obtain ⟨r4, h1, h⟩ := bnd1_e h
  rcases ite_or h with h | h
  · cases h
    exact F
  · obtain ⟨r12, h1, h⟩ := bnd1_e h
    rcases ite_or h with h | h
    · cases h
      exact F
    · replace h := (grd_e h).2
      obtain ⟨σ31, e_σ31, h⟩ := letv_e h
      have F := F.aI e_σ31 (by decide)
      obtain ⟨σ41, e_σ41, h⟩ := letv_e h
      have F := F.fI e_σ41 (by decide)
      cases h
      exact F
set_option maxHeartbeats 4000000 in
theorem fm_Mo_worthOf {N : Nat} {σ : Mem} {a1 : Int32} {a2 : Int32} {a3 : Int32} {r : Int32} {σ' : Mem} (h : f_Mo_worthOf N σ a1 a2 a3 = some (r, σ')) : Fr [84, 85] [] σ σ' := by
  have F := Fr.rf [84, 85] [] σ
  unfold f_Mo_worthOf at h
  obtain ⟨σ2, h1, h⟩ := bnd1_e h
  have F := F.c (fm_Mo_feels h1) (by decide) (by decide)
  obtain ⟨σ14, e_σ14, h⟩ := letv_e h
  have F := F.aI e_σ14 (by decide)
  obtain ⟨σ24, e_σ24, h⟩ := letv_e h
  have F := F.aI e_σ24 (by decide)
  obtain ⟨r33, h1, h⟩ := bnd1_e h
  obtain ⟨r36, h1, h⟩ := bnd1_e h
  obtain ⟨σ39, e_σ39, h⟩ := letv_e h
  have F := F.aI e_σ39 (by decide)
  obtain ⟨σ46, e_σ46, h⟩ := letv_e h
  have F := F.aI e_σ46 (by decide)
  replace h := (grd_e h).2
  obtain ⟨r67, h1, h⟩ := bnd1_e h
  replace h := (grd_e h).2
  obtain ⟨r84, h1, h⟩ := bnd1_e h
  obtain ⟨σ88, e_σ88, h⟩ := letv_e h
  have F := F.aI e_σ88 (by decide)
  obtain ⟨r96, σ96, h1, h⟩ := bnd2_e h
  have F := F.c (fm_Mo_byLaw h1) (by decide) (by decide)
  cases h
  exact F
set_option maxHeartbeats 4000000 in
theorem fm_Mo_worth {N : Nat} {σ : Mem} {a1 : Int32} {a2 : Int32} {a3 : Int32} {a4 : Int32} {r : Int32} {σ' : Mem} (h : f_Mo_worth N σ a1 a2 a3 a4 = some (r, σ')) : Fr [84, 85, 86, 87, 88] [(65, 37)] σ σ' := by
  have F := Fr.rf [84, 85, 86, 87, 88] [(65, 37)] σ
  unfold f_Mo_worth at h
  obtain ⟨r2, h1, h⟩ := bnd1_e h
  rcases ite_or h with h | h
  · cases h
    exact F
  · obtain ⟨r10, h1, h⟩ := bnd1_e h
    rcases ite_or h with h | h
    · cases h
      exact F
    · obtain ⟨r18, h1, h⟩ := bnd1_e h
      rcases ite_or h with h | h
      · cases h
        exact F
      · obtain ⟨σ27, h1, h⟩ := bnd1_e h
        have F := F.c (fm_Mo_laysDay h1) (by decide) (by decide)
        obtain ⟨r40, σ40, h1, h⟩ := bnd2_e h
        have F := F.c (fm_Mo_worthOf h1) (by decide) (by decide)
        cases h
        exact F
set_option maxHeartbeats 4000000 in
theorem fmL_Mo_sells_l20 {N : Nat} {a1 : Int32} {a2 : Int32} {a3 : Int32} : ∀ (k : Nat) (x4 : Int32) (σ : Mem) (res : Mem), L_Mo_sells_l20 N a1 a2 a3 k x4 σ = some res → Fr [95, 96] [] σ (res) := by
  intro k
  induction k with
  | zero => intro x4 σ res h; cases h
  | succ k ih =>
    intro x4 σ res h
    have F := Fr.rf [95, 96] [] σ
    replace h : B_Mo_sells_l20 N a1 a2 a3 (L_Mo_sells_l20 N a1 a2 a3 k) x4 σ = some res := h
    unfold B_Mo_sells_l20 at h
    rcases ite_or h with h | h
    · cases h
      exact F
    · obtain ⟨v35, e_v35, h⟩ := letv_e h
      obtain ⟨r40, h1, h⟩ := bnd1_e h
      obtain ⟨s43, h1, h⟩ := bnd1_e h
      have J43_149 : ∀ (σ43_ : Mem), s43 = σ43_ → Fr [95, 96] [] σ σ43_ → Fr [95, 96] [] σ (res) := by
        intro σ43_ he F
        rw [he] at h
        obtain ⟨v149, -, h⟩ := letv_e h
        exact F.t (ih _ _ _ h)
      replace h := h1
      obtain ⟨s43b, h1, h⟩ := bnd1_e h
      have J43b_149 : ∀ (y43b_6 : Int32) (y43b_7 : Int64), s43b = (0, y43b_6, y43b_7) → Fr [95, 96] [] σ (res) := by
        intro y43b_6 y43b_7 he
        rw [he] at h
        replace h := q3_e h
        replace h := ite_t rfl h
        exact J43_149 _ (Option.some.inj h).symm F
      have J43b_133 : ∀ (y43b_6 : Int32) (y43b_7 : Int64), s43b = (1, y43b_6, y43b_7) → Fr [95, 96] [] σ (res) := by
        intro y43b_6 y43b_7 he
        rw [he] at h
        replace h := q3_e h
        replace h := ite_f (by decide) h
        replace h := (grd_e h).2
        obtain ⟨σ140, e_σ140, h⟩ := letv_e h
        have F := F.aI e_σ140 (by decide)
        replace h := (grd_e h).2
        obtain ⟨σ148, e_σ148, h⟩ := letv_e h
        have F := F.aL e_σ148 (by decide)
        exact J43_149 _ (Option.some.inj h).symm F
      replace h := h1
      rcases ite_or h with h | h
      · exact J43b_149 _ _ (Option.some.inj h).symm
      · replace h := (grd_e h).2
        rcases ite_or h with h | h
        · replace h := (grd_e h).2
          replace h := (grd_e h).2
          obtain ⟨v74, e_v74, h⟩ := letv_e h
          replace h := (grd_e h).2
          replace h := (grd_e h).2
          obtain ⟨v94, e_v94, h⟩ := letv_e h
          replace h := (grd_e h).2
          rcases ite_or h with h | h
          · exact J43b_149 _ _ (Option.some.inj h).symm
          · replace h := (grd_e h).2
            rcases ite_or h with h | h
            · replace h := (grd_e h).2
              rcases ite_or h with h | h
              · exact J43b_133 _ _ (Option.some.inj h).symm
              · exact J43b_149 _ _ (Option.some.inj h).symm
            · exact J43b_133 _ _ (Option.some.inj h).symm
        · exact J43b_149 _ _ (Option.some.inj h).symm
set_option maxHeartbeats 4000000 in
theorem fmL_Mo_sells_l2 {N : Nat} {a1 : Int32} {a2 : Int32} : ∀ (k : Nat) (x3 : Int32) (σ : Mem) (res : Mem), L_Mo_sells_l2 N a1 a2 k x3 σ = some res → Fr [95, 96] [] σ (res) := by
  intro k
  induction k with
  | zero => intro x3 σ res h; cases h
  | succ k ih =>
    intro x3 σ res h
    have F := Fr.rf [95, 96] [] σ
    replace h : B_Mo_sells_l2 N a1 a2 (L_Mo_sells_l2 N a1 a2 k) x3 σ = some res := h
    unfold B_Mo_sells_l2 at h
    rcases ite_or h with h | h
    · cases h
      exact F
    · obtain ⟨s11, h1, h⟩ := bnd1_e h
      have J11_155 : ∀ (σ11_ : Mem), s11 = σ11_ → Fr [95, 96] [] σ σ11_ → Fr [95, 96] [] σ (res) := by
        intro σ11_ he F
        rw [he] at h
        obtain ⟨v155, -, h⟩ := letv_e h
        exact F.t (ih _ _ _ h)
      replace h := h1
      rcases ite_or h with h | h
      · obtain ⟨σ20_, h1, h⟩ := bnd1_e h
        have F := F.t (fmL_Mo_sells_l20 _ _ _ _ h1)
        have F : Fr [95, 96] [] σ σ20_ := F
        exact J11_155 _ (Option.some.inj h).symm F
      · exact J11_155 _ (Option.some.inj h).symm F
set_option maxHeartbeats 4000000 in
theorem fm_Mo_sells {N : Nat} {σ : Mem} {a1 : Int32} {a2 : Int32} {σ' : Mem} (h : f_Mo_sells N σ a1 a2 = some σ') : Fr [95, 96] [] σ σ' := by
  have F := Fr.rf [95, 96] [] σ
  unfold f_Mo_sells at h
  exact F.t (fmL_Mo_sells_l2 _ _ _ _ h)
set_option maxHeartbeats 4000000 in
theorem fmL_Mo_laysSale_l6 {N : Nat} {a1 : Int32} {a2 : Int32} : ∀ (k : Nat) (x3 : Int64) (x5 : Int32) (σ : Mem) (res : Mem), L_Mo_laysSale_l6 N a1 a2 k x3 x5 σ = some res → Fr [84, 85, 95, 96, 97, 98] [(65, 53), (65, 54)] σ (res) := by
  intro k
  induction k with
  | zero => intro x3 x5 σ res h; cases h
  | succ k ih =>
    intro x3 x5 σ res h
    have F := Fr.rf [84, 85, 95, 96, 97, 98] [(65, 53), (65, 54)] σ
    replace h : B_Mo_laysSale_l6 N a1 a2 (L_Mo_laysSale_l6 N a1 a2 k) x3 x5 σ = some res := h
    unfold B_Mo_laysSale_l6 at h
    rcases ite_or h with h | h
    · cases h
      exact F
    · obtain ⟨r20, h1, h⟩ := bnd1_e h
      obtain ⟨s23, h1, h⟩ := bnd1_e h
      have J23_31 : ∀ (y23_s2 : Int64), s23 = y23_s2 → Fr [84, 85, 95, 96, 97, 98] [(65, 53), (65, 54)] σ (res) := by
        intro y23_s2 he
        rw [he] at h
        replace h := (grd_e h).2
        obtain ⟨σ31, e_σ31, h⟩ := letv_e h
        have F := F.aL e_σ31 (by decide)
        obtain ⟨r35, h1, h⟩ := bnd1_e h
        obtain ⟨s38, h1, h⟩ := bnd1_e h
        have J38_50 : ∀ (y38_s0 : Int64), s38 = y38_s0 → Fr [84, 85, 95, 96, 97, 98] [(65, 53), (65, 54)] σ (res) := by
          intro y38_s0 he
          rw [he] at h
          obtain ⟨v51, -, h⟩ := letv_e h
          exact F.t (ih _ _ _ _ h)
        replace h := h1
        rcases ite_or h with h | h
        · exact J38_50 _ (Option.some.inj h).symm
        · exact J38_50 _ (Option.some.inj h).symm
      replace h := h1
      rcases ite_or h with h | h
      · exact J23_31 _ (Option.some.inj h).symm
      · exact J23_31 _ (Option.some.inj h).symm
set_option maxHeartbeats 4000000 in
theorem fmL_Mo_laysSale_l60 {N : Nat} {a1 : Int32} {a2 : Int32} : ∀ (k : Nat) (x5 : Int32) (σ : Mem) (res : Mem), L_Mo_laysSale_l60 N a1 a2 k x5 σ = some res → Fr [84, 85, 95, 96, 97, 98] [(65, 53), (65, 54)] σ (res) := by
  intro k
  induction k with
  | zero => intro x5 σ res h; cases h
  | succ k ih =>
    intro x5 σ res h
    have F := Fr.rf [84, 85, 95, 96, 97, 98] [(65, 53), (65, 54)] σ
    replace h : B_Mo_laysSale_l60 N a1 a2 (L_Mo_laysSale_l60 N a1 a2 k) x5 σ = some res := h
    unfold B_Mo_laysSale_l60 at h
    rcases ite_or h with h | h
    · cases h
      exact F
    · obtain ⟨s76, h1, h⟩ := bnd1_e h
      have J76_84 : ∀ (y76_s2 : Int32), s76 = y76_s2 → Fr [84, 85, 95, 96, 97, 98] [(65, 53), (65, 54)] σ (res) := by
        intro y76_s2 he
        rw [he] at h
        replace h := (grd_e h).2
        obtain ⟨σ84, e_σ84, h⟩ := letv_e h
        have F := F.aI e_σ84 (by decide)
        replace h := (grd_e h).2
        obtain ⟨σ92, e_σ92, h⟩ := letv_e h
        have F := F.aL e_σ92 (by decide)
        obtain ⟨v93, -, h⟩ := letv_e h
        exact F.t (ih _ _ _ h)
      replace h := h1
      rcases ite_or h with h | h
      · exact J76_84 _ (Option.some.inj h).symm
      · exact J76_84 _ (Option.some.inj h).symm
set_option maxHeartbeats 4000000 in
theorem fmL_Mo_laysSale_l126 {N : Nat} {a1 : Int32} {a2 : Int32} {a5 : Int32} : ∀ (k : Nat) (x6 : Int32) (σ : Mem) (res : Mem), L_Mo_laysSale_l126 N a1 a2 a5 k x6 σ = some res → Fr [84, 85, 95, 96, 97, 98] [(65, 53), (65, 54)] σ (res) := by
  intro k
  induction k with
  | zero => intro x6 σ res h; cases h
  | succ k ih =>
    intro x6 σ res h
    have F := Fr.rf [84, 85, 95, 96, 97, 98] [(65, 53), (65, 54)] σ
    replace h : B_Mo_laysSale_l126 N a1 a2 a5 (L_Mo_laysSale_l126 N a1 a2 a5 k) x6 σ = some res := h
    unfold B_Mo_laysSale_l126 at h
    rcases ite_or h with h | h
    · cases h
      exact F
    · obtain ⟨r142, h1, h⟩ := bnd1_e h
      obtain ⟨s145, h1, h⟩ := bnd1_e h
      have J145_161 : ∀ (y145_s2 : Int32) (σ145_ : Mem), s145 = (y145_s2, σ145_) → Fr [84, 85, 95, 96, 97, 98] [(65, 53), (65, 54)] σ σ145_ → Fr [84, 85, 95, 96, 97, 98] [(65, 53), (65, 54)] σ (res) := by
        intro y145_s2 σ145_ he F
        rw [he] at h
        replace h := q2_e h
        replace h := (grd_e h).2
        obtain ⟨σ161, e_σ161, h⟩ := letv_e h
        have F := F.aI e_σ161 (by decide)
        obtain ⟨v162, -, h⟩ := letv_e h
        exact F.t (ih _ _ _ h)
      replace h := h1
      rcases ite_or h with h | h
      · exact J145_161 _ _ (Option.some.inj h).symm F
      · obtain ⟨r154, σ154, h1, h⟩ := bnd2_e h
        have F := F.c (fm_Mo_worthOf h1) (by decide) (by decide)
        exact J145_161 _ _ (Option.some.inj h).symm F
set_option maxHeartbeats 4000000 in
theorem fmL_Mo_laysSale_l102 {N : Nat} {a1 : Int32} {a2 : Int32} : ∀ (k : Nat) (x5 : Int32) (σ : Mem) (res : Mem), L_Mo_laysSale_l102 N a1 a2 k x5 σ = some res → Fr [84, 85, 95, 96, 97, 98] [(65, 53), (65, 54)] σ (res) := by
  intro k
  induction k with
  | zero => intro x5 σ res h; cases h
  | succ k ih =>
    intro x5 σ res h
    have F := Fr.rf [84, 85, 95, 96, 97, 98] [(65, 53), (65, 54)] σ
    replace h : B_Mo_laysSale_l102 N a1 a2 (L_Mo_laysSale_l102 N a1 a2 k) x5 σ = some res := h
    unfold B_Mo_laysSale_l102 at h
    rcases ite_or h with h | h
    · cases h
      exact F
    · obtain ⟨r114, h1, h⟩ := bnd1_e h
      obtain ⟨s117, h1, h⟩ := bnd1_e h
      have J117_175 : ∀ (σ117_ : Mem), s117 = σ117_ → Fr [84, 85, 95, 96, 97, 98] [(65, 53), (65, 54)] σ σ117_ → Fr [84, 85, 95, 96, 97, 98] [(65, 53), (65, 54)] σ (res) := by
        intro σ117_ he F
        rw [he] at h
        obtain ⟨v175, -, h⟩ := letv_e h
        exact F.t (ih _ _ _ h)
      replace h := h1
      rcases ite_or h with h | h
      · exact J117_175 _ (Option.some.inj h).symm F
      · obtain ⟨σ126_, h1, h⟩ := bnd1_e h
        have F := F.t (fmL_Mo_laysSale_l126 _ _ _ _ h1)
        have F : Fr [84, 85, 95, 96, 97, 98] [(65, 53), (65, 54)] σ σ126_ := F
        obtain ⟨σ172, h1, h⟩ := bnd1_e h
        have F := F.c (fm_Mo_sells h1) (by decide) (by decide)
        exact J117_175 _ (Option.some.inj h).symm F
set_option maxHeartbeats 4000000 in
theorem fmL_Mo_laysSale_l189 {N : Nat} {a2 : Int32} : ∀ (k : Nat) (x5 : Int32) (σ : Mem) (res : Mem), L_Mo_laysSale_l189 N a2 k x5 σ = some res → Fr [84, 85, 95, 96, 97, 98] [(65, 53), (65, 54)] σ (res) := by
  intro k
  induction k with
  | zero => intro x5 σ res h; cases h
  | succ k ih =>
    intro x5 σ res h
    have F := Fr.rf [84, 85, 95, 96, 97, 98] [(65, 53), (65, 54)] σ
    replace h : B_Mo_laysSale_l189 N a2 (L_Mo_laysSale_l189 N a2 k) x5 σ = some res := h
    unfold B_Mo_laysSale_l189 at h
    rcases ite_or h with h | h
    · cases h
      exact F
    · obtain ⟨s201, h1, h⟩ := bnd1_e h
      have J201_284 : ∀ (σ201_ : Mem), s201 = σ201_ → Fr [84, 85, 95, 96, 97, 98] [(65, 53), (65, 54)] σ σ201_ → Fr [84, 85, 95, 96, 97, 98] [(65, 53), (65, 54)] σ (res) := by
        intro σ201_ he F
        rw [he] at h
        obtain ⟨v284, -, h⟩ := letv_e h
        exact F.t (ih _ _ _ h)
      replace h := h1
      obtain ⟨s201b, h1, h⟩ := bnd1_e h
      have J201b_284 : ∀ (y201b_6 : Int64), s201b = (0, y201b_6) → Fr [84, 85, 95, 96, 97, 98] [(65, 53), (65, 54)] σ (res) := by
        intro y201b_6 he
        rw [he] at h
        replace h := q2_e h
        replace h := ite_t rfl h
        exact J201_284 _ (Option.some.inj h).symm F
      have J201b_267 : ∀ (y201b_6 : Int64), s201b = (1, y201b_6) → Fr [84, 85, 95, 96, 97, 98] [(65, 53), (65, 54)] σ (res) := by
        intro y201b_6 he
        rw [he] at h
        replace h := q2_e h
        replace h := ite_f (by decide) h
        replace h := (grd_e h).2
        obtain ⟨σ275, e_σ275, h⟩ := letv_e h
        have F := F.fI e_σ275 (by decide)
        obtain ⟨σ281, e_σ281, h⟩ := letv_e h
        have F := F.fL e_σ281 (by decide)
        exact J201_284 _ (Option.some.inj h).symm F
      replace h := h1
      rcases ite_or h with h | h
      · replace h := (grd_e h).2
        rcases ite_or h with h | h
        · obtain ⟨r221, h1, h⟩ := bnd1_e h
          replace h := (grd_e h).2
          rcases ite_or h with h | h
          · exact J201b_284 _ (Option.some.inj h).symm
          · replace h := (grd_e h).2
            rcases ite_or h with h | h
            · rcases ite_or h with h | h
              · exact J201b_267 _ (Option.some.inj h).symm
              · exact J201b_284 _ (Option.some.inj h).symm
            · exact J201b_267 _ (Option.some.inj h).symm
        · exact J201b_284 _ (Option.some.inj h).symm
      · exact J201b_284 _ (Option.some.inj h).symm
set_option maxHeartbeats 4000000 in
theorem fm_Mo_laysSale {N : Nat} {σ : Mem} {a1 : Int32} {a2 : Int32} {σ' : Mem} (h : f_Mo_laysSale N σ a1 a2 = some σ') : Fr [84, 85, 95, 96, 97, 98] [(65, 53), (65, 54)] σ σ' := by
  have F := Fr.rf [84, 85, 95, 96, 97, 98] [(65, 53), (65, 54)] σ
  unfold f_Mo_laysSale at h
  obtain ⟨σ6_, h1, h⟩ := bnd1_e h
  have F := F.t (fmL_Mo_laysSale_l6 _ _ _ _ _ h1)
  have F : Fr [84, 85, 95, 96, 97, 98] [(65, 53), (65, 54)] σ σ6_ := F
  obtain ⟨σ60_, h1, h⟩ := bnd1_e h
  have F := F.t (fmL_Mo_laysSale_l60 _ _ _ _ h1)
  have F : Fr [84, 85, 95, 96, 97, 98] [(65, 53), (65, 54)] σ σ60_ := F
  obtain ⟨σ102_, h1, h⟩ := bnd1_e h
  have F := F.t (fmL_Mo_laysSale_l102 _ _ _ _ h1)
  have F : Fr [84, 85, 95, 96, 97, 98] [(65, 53), (65, 54)] σ σ102_ := F
  obtain ⟨σ183, e_σ183, h⟩ := letv_e h
  have F := F.fI e_σ183 (by decide)
  exact F.t (fmL_Mo_laysSale_l189 _ _ _ _ h)
set_option maxHeartbeats 4000000 in
theorem fm_Mo_saleWithout {N : Nat} {σ : Mem} {a1 : Int32} {a2 : Int32} {a3 : Int32} {r : Int32} {σ' : Mem} (h : f_Mo_saleWithout N σ a1 a2 a3 = some (r, σ')) : Fr [84, 85, 95, 96, 97, 98] [(65, 53), (65, 54)] σ σ' := by
  have F := Fr.rf [84, 85, 95, 96, 97, 98] [(65, 53), (65, 54)] σ
  unfold f_Mo_saleWithout at h
  obtain ⟨σ9, h1, h⟩ := bnd1_e h
  have F := F.c (fm_Mo_laysSale h1) (by decide) (by decide)
  cases h
  exact F
set_option maxHeartbeats 4000000 in
theorem fm_Mo_sale {N : Nat} {σ : Mem} {a1 : Int32} {a2 : Int32} {a3 : Int32} {r : Int32} {σ' : Mem} (h : f_Mo_sale N σ a1 a2 a3 = some (r, σ')) : Fr [84, 85, 86, 87, 88, 95, 96, 97, 98] [(65, 37), (65, 53), (65, 54)] σ σ' := by
  have F := Fr.rf [84, 85, 86, 87, 88, 95, 96, 97, 98] [(65, 37), (65, 53), (65, 54)] σ
  unfold f_Mo_sale at h
  obtain ⟨s2, h1, h⟩ := bnd1_e h
  have J2_50 : ∀ (y2_s0 : Int32), s2 = y2_s0 → Fr [84, 85, 86, 87, 88, 95, 96, 97, 98] [(65, 37), (65, 53), (65, 54)] σ σ' := by
    intro y2_s0 he
    rw [he] at h
    obtain ⟨r53, h1, h⟩ := bnd1_e h
    rcases ite_or h with h | h
    · cases h
      exact F
    · obtain ⟨r64, h1, h⟩ := bnd1_e h
      rcases ite_or h with h | h
      · cases h
        exact F
      · rcases ite_or h with h | h
        · cases h
          exact F
        · rcases ite_or h with h | h
          · obtain ⟨σ93, h1, h⟩ := bnd1_e h
            have F := F.c (fm_Mo_laysDay h1) (by decide) (by decide)
            obtain ⟨σ99, h1, h⟩ := bnd1_e h
            have F := F.c (fm_Mo_laysSale h1) (by decide) (by decide)
            rcases ite_or h with h | h
            · cases h
              exact F
            · obtain ⟨s115, h1, h⟩ := bnd1_e h
              have J115_126 : ∀ (y115_s0 : Int32), s115 = y115_s0 → Fr [84, 85, 86, 87, 88, 95, 96, 97, 98] [(65, 37), (65, 53), (65, 54)] σ σ' := by
                intro y115_s0 he
                rw [he] at h
                replace h := (grd_e h).2
                replace h := (grd_e h).2
                obtain ⟨v145, e_v145, h⟩ := letv_e h
                rcases ite_or h with h | h
                · obtain ⟨s161, h1, h⟩ := bnd1_e h
                  have J161_177 : ∀ (y161_s0 : Int32) (σ161_ : Mem), s161 = (y161_s0, σ161_) → Fr [84, 85, 86, 87, 88, 95, 96, 97, 98] [(65, 37), (65, 53), (65, 54)] σ σ161_ → Fr [84, 85, 86, 87, 88, 95, 96, 97, 98] [(65, 37), (65, 53), (65, 54)] σ σ' := by
                    intro y161_s0 σ161_ he F
                    rw [he] at h
                    replace h := q2_e h
                    obtain ⟨v186, e_v186, h⟩ := letv_e h
                    obtain ⟨r193, σ193, h1, h⟩ := bnd2_e h
                    have F := F.c (fm_Mo_saleWithout h1) (by decide) (by decide)
                    cases h
                    exact F
                  replace h := h1
                  rcases ite_or h with h | h
                  · exact J161_177 _ _ (Option.some.inj h).symm F
                  · obtain ⟨r174, σ174, h1, h⟩ := bnd2_e h
                    have F := F.c (fm_Mo_worthOf h1) (by decide) (by decide)
                    exact J161_177 _ _ (Option.some.inj h).symm F
                · cases h
                  exact F
              replace h := h1
              rcases ite_or h with h | h
              · exact J115_126 _ (Option.some.inj h).symm
              · exact J115_126 _ (Option.some.inj h).symm
          · cases h
            exact F
  replace h := h1
  obtain ⟨s2b, h1, h⟩ := bnd1_e h
  have J2b_45 : s2b = 0 → Fr [84, 85, 86, 87, 88, 95, 96, 97, 98] [(65, 37), (65, 53), (65, 54)] σ σ' := by
    intro he
    rw [he] at h
    replace h := ite_t rfl h
    exact J2_50 _ (Option.some.inj h).symm
  have J2b_23 : s2b = 1 → Fr [84, 85, 86, 87, 88, 95, 96, 97, 98] [(65, 37), (65, 53), (65, 54)] σ σ' := by
    intro he
    rw [he] at h
    replace h := ite_f (by decide) h
    obtain ⟨r28, h1, h⟩ := bnd1_e h
    obtain ⟨s31b, h1, h⟩ := bnd1_e h
    have J31b_49 : s31b = 0 → Fr [84, 85, 86, 87, 88, 95, 96, 97, 98] [(65, 37), (65, 53), (65, 54)] σ σ' := by
      intro he
      rw [he] at h
      replace h := ite_t rfl h
      exact J2_50 _ (Option.some.inj h).symm
    have J31b_45 : s31b = 1 → Fr [84, 85, 86, 87, 88, 95, 96, 97, 98] [(65, 37), (65, 53), (65, 54)] σ σ' := by
      intro he
      rw [he] at h
      replace h := ite_f (by decide) h
      exact J2_50 _ (Option.some.inj h).symm
    replace h := h1
    rcases ite_or h with h | h
    · exact J31b_49 (Option.some.inj h).symm
    · obtain ⟨r39, h1, h⟩ := bnd1_e h
      rcases ite_or h with h | h
      · exact J31b_49 (Option.some.inj h).symm
      · exact J31b_45 (Option.some.inj h).symm
  replace h := h1
  rcases ite_or h with h | h
  · exact J2b_45 (Option.some.inj h).symm
  · obtain ⟨r9, h1, h⟩ := bnd1_e h
    rcases ite_or h with h | h
    · exact J2b_23 (Option.some.inj h).symm
    · obtain ⟨r17, h1, h⟩ := bnd1_e h
      rcases ite_or h with h | h
      · exact J2b_23 (Option.some.inj h).symm
      · exact J2b_45 (Option.some.inj h).symm
set_option maxHeartbeats 4000000 in
theorem fm_Mo_wish {σ : Mem} {a1 : Int32} {a2 : Int32} {a3 : Int32} {a4 : Int32} {a5 : Int32} {a6 : Int32} {a7 : Int32} {r : Int32} {σ' : Mem} (h : f_Mo_wish σ a1 a2 a3 a4 a5 a6 a7 = some (r, σ')) : Fr [99, 100, 101, 102, 103] [(65, 55)] σ σ' := by
  have F := Fr.rf [99, 100, 101, 102, 103] [(65, 55)] σ
  unfold f_Mo_wish at h
  obtain ⟨r4, h1, h⟩ := bnd1_e h
  rcases ite_or h with h | h
  · cases h
    exact F
  · obtain ⟨r12, h1, h⟩ := bnd1_e h
    rcases ite_or h with h | h
    · cases h
      exact F
    · obtain ⟨r20, h1, h⟩ := bnd1_e h
      rcases ite_or h with h | h
      · cases h
        exact F
      · obtain ⟨r34, h1, h⟩ := bnd1_e h
        rcases ite_or h with h | h
        · cases h
          exact F
        · obtain ⟨r45, h1, h⟩ := bnd1_e h
          rcases ite_or h with h | h
          · cases h
            exact F
          · replace h := (grd_e h).2
            obtain ⟨σ64, e_σ64, h⟩ := letv_e h
            have F := F.aI e_σ64 (by decide)
            replace h := (grd_e h).2
            obtain ⟨σ72, e_σ72, h⟩ := letv_e h
            have F := F.aI e_σ72 (by decide)
            replace h := (grd_e h).2
            obtain ⟨σ80, e_σ80, h⟩ := letv_e h
            have F := F.aI e_σ80 (by decide)
            replace h := (grd_e h).2
            obtain ⟨σ88, e_σ88, h⟩ := letv_e h
            have F := F.aI e_σ88 (by decide)
            replace h := (grd_e h).2
            obtain ⟨σ96, e_σ96, h⟩ := letv_e h
            have F := F.aI e_σ96 (by decide)
            obtain ⟨σ106, e_σ106, h⟩ := letv_e h
            have F := F.fI e_σ106 (by decide)
            cases h
            exact F
set_option maxHeartbeats 4000000 in
theorem fm_Mo_kept {N : Nat} {σ : Mem} {a1 : Int32} {r : Int32} {σ' : Mem} (h : f_Mo_kept N σ a1 = some (r, σ')) : Fr [84, 85, 86, 87, 88] [(65, 37), (65, 62)] σ σ' := by
  have F := Fr.rf [84, 85, 86, 87, 88] [(65, 37), (65, 62)] σ
  unfold f_Mo_kept at h
  obtain ⟨r2, h1, h⟩ := bnd1_e h
  rcases ite_or h with h | h
  · cases h
    exact F
  · obtain ⟨σ11, h1, h⟩ := bnd1_e h
    have F := F.c (fm_Mo_laysDay h1) (by decide) (by decide)
    obtain ⟨σ16, e_σ16, h⟩ := letv_e h
    have F := F.fI e_σ16 (by decide)
    obtain ⟨r21, h1, h⟩ := bnd1_e h
    cases h
    exact F
set_option maxHeartbeats 4000000 in
theorem fm_Mo_happy {N : Nat} {σ : Mem} {r : Int32} {σ' : Mem} (h : f_Mo_happy N σ = some (r, σ')) : Fr [84, 85, 86, 87, 88] [(65, 37), (65, 62)] σ σ' := by
  have F := Fr.rf [84, 85, 86, 87, 88] [(65, 37), (65, 62)] σ
  unfold f_Mo_happy at h
  obtain ⟨σ1, h1, h⟩ := bnd1_e h
  have F := F.c (fm_Mo_laysDay h1) (by decide) (by decide)
  obtain ⟨σ6, e_σ6, h⟩ := letv_e h
  have F := F.fI e_σ6 (by decide)
  obtain ⟨r10, h1, h⟩ := bnd1_e h
  cases h
  exact F
set_option maxHeartbeats 4000000 in
theorem fm_Mo_storey {N : Nat} {σ : Mem} {a1 : Int32} {a2 : Int32} {r : Int32} {σ' : Mem} (h : f_Mo_storey N σ a1 a2 = some (r, σ')) : Fr [68, 84, 85, 86, 87, 88] [(65, 37), (65, 62)] σ σ' := by
  have F := Fr.rf [68, 84, 85, 86, 87, 88] [(65, 37), (65, 62)] σ
  unfold f_Mo_storey at h
  obtain ⟨r2, h1, h⟩ := bnd1_e h
  rcases ite_or h with h | h
  · cases h
    exact F
  · replace h := (grd_e h).2
    rcases ite_or h with h | h
    · obtain ⟨r20, h1, h⟩ := bnd1_e h
      rcases ite_or h with h | h
      · cases h
        exact F
      · obtain ⟨σ31, h1, h⟩ := bnd1_e h
        have F := F.c (fm_Mo_laysDay h1) (by decide) (by decide)
        obtain ⟨σ36, e_σ36, h⟩ := letv_e h
        have F := F.fI e_σ36 (by decide)
        obtain ⟨s42, h1, h⟩ := bnd1_e h
        have J42_50 : ∀ (y42_s1 : Int32), s42 = y42_s1 → Fr [68, 84, 85, 86, 87, 88] [(65, 37), (65, 62)] σ σ' := by
          intro y42_s1 he
          rw [he] at h
          obtain ⟨r50, h1, h⟩ := bnd1_e h
          replace h := (grd_e h).2
          obtain ⟨v60, e_v60, h⟩ := letv_e h
          obtain ⟨r74, h1, h⟩ := bnd1_e h
          replace h := (grd_e h).2
          obtain ⟨σ77, e_σ77, h⟩ := letv_e h
          have F := F.aI e_σ77 (by decide)
          obtain ⟨σ79, h1, h⟩ := bnd1_e h
          have F := F.c (fm_Mo_laysDay h1) (by decide) (by decide)
          obtain ⟨s85, h1, h⟩ := bnd1_e h
          have J85_93 : ∀ (y85_s1 : Int32), s85 = y85_s1 → Fr [68, 84, 85, 86, 87, 88] [(65, 37), (65, 62)] σ σ' := by
            intro y85_s1 he
            rw [he] at h
            obtain ⟨r93, h1, h⟩ := bnd1_e h
            replace h := (grd_e h).2
            obtain ⟨σ105, e_σ105, h⟩ := letv_e h
            have F := F.aI e_σ105 (by decide)
            rcases ite_or h with h | h
            · cases h
              exact F
            · cases h
              exact F
          replace h := h1
          rcases ite_or h with h | h
          · exact J85_93 _ (Option.some.inj h).symm
          · exact J85_93 _ (Option.some.inj h).symm
        replace h := h1
        rcases ite_or h with h | h
        · exact J42_50 _ (Option.some.inj h).symm
        · exact J42_50 _ (Option.some.inj h).symm
    · cases h
      exact F
set_option maxHeartbeats 4000000 in
theorem fmL_Mo_laysBesides_l8 {N : Nat} {a1 : Int32} {a2 : Int32} {a3 : Int32} : ∀ (k : Nat) (x4 : Int32) (σ : Mem) (res : Mem), L_Mo_laysBesides_l8 N a1 a2 a3 k x4 σ = some res → Fr [104] [(65, 62)] σ (res) := by
  intro k
  induction k with
  | zero => intro x4 σ res h; cases h
  | succ k ih =>
    intro x4 σ res h
    have F := Fr.rf [104] [(65, 62)] σ
    replace h : B_Mo_laysBesides_l8 N a1 a2 a3 (L_Mo_laysBesides_l8 N a1 a2 a3 k) x4 σ = some res := h
    unfold B_Mo_laysBesides_l8 at h
    rcases ite_or h with h | h
    · cases h
      exact F
    · obtain ⟨r21, h1, h⟩ := bnd1_e h
      obtain ⟨v26, e_v26, h⟩ := letv_e h
      obtain ⟨r35, h1, h⟩ := bnd1_e h
      obtain ⟨v40, e_v40, h⟩ := letv_e h
      obtain ⟨r46, h1, h⟩ := bnd1_e h
      obtain ⟨s49, h1, h⟩ := bnd1_e h
      have J49_82 : ∀ (σ49_ : Mem), s49 = σ49_ → Fr [104] [(65, 62)] σ σ49_ → Fr [104] [(65, 62)] σ (res) := by
        intro σ49_ he F
        rw [he] at h
        obtain ⟨v82, -, h⟩ := letv_e h
        exact F.t (ih _ _ _ h)
      replace h := h1
      rcases ite_or h with h | h
      · exact J49_82 _ (Option.some.inj h).symm F
      · replace h := (grd_e h).2
        obtain ⟨σ71, e_σ71, h⟩ := letv_e h
        have F := F.aI e_σ71 (by decide)
        obtain ⟨σ79, e_σ79, h⟩ := letv_e h
        have F := F.fI e_σ79 (by decide)
        exact J49_82 _ (Option.some.inj h).symm F
set_option maxHeartbeats 4000000 in
theorem fm_Mo_laysBesides {N : Nat} {σ : Mem} {a1 : Int32} {a2 : Int32} {a3 : Int32} {σ' : Mem} (h : f_Mo_laysBesides N σ a1 a2 a3 = some σ') : Fr [104] [(65, 62)] σ σ' := by
  have F := Fr.rf [104] [(65, 62)] σ
  unfold f_Mo_laysBesides at h
  obtain ⟨σ2, e_σ2, h⟩ := letv_e h
  have F := F.fI e_σ2 (by decide)
  exact F.t (fmL_Mo_laysBesides_l8 _ _ _ _ h)
set_option maxHeartbeats 4000000 in
theorem fmL_Mo_bestAwning_l32 {N : Nat} {a1 : Int32} {a2 : Int32} : ∀ (k : Nat) (x3 : Int32) (x4 : Int32) (x5 : Int32) (σ : Mem) (res : Int32 × Int32 × Mem), L_Mo_bestAwning_l32 N a1 a2 k x3 x4 x5 σ = some res → Fr [84, 85, 86, 87, 88, 104] [(65, 37), (65, 62)] σ (res.2.2) := by
  intro k
  induction k with
  | zero => intro x3 x4 x5 σ res h; cases h
  | succ k ih =>
    intro x3 x4 x5 σ res h
    have F := Fr.rf [84, 85, 86, 87, 88, 104] [(65, 37), (65, 62)] σ
    replace h : B_Mo_bestAwning_l32 N a1 a2 (L_Mo_bestAwning_l32 N a1 a2 k) x3 x4 x5 σ = some res := h
    unfold B_Mo_bestAwning_l32 at h
    rcases ite_or h with h | h
    · cases h
      exact F
    · replace h := (grd_e h).2
      obtain ⟨s49, h1, h⟩ := bnd1_e h
      have J49_91 : ∀ (y49_3 : Int32) (y49_4 : Int32) (σ49_ : Mem), s49 = (y49_3, y49_4, σ49_) → Fr [84, 85, 86, 87, 88, 104] [(65, 37), (65, 62)] σ σ49_ → Fr [84, 85, 86, 87, 88, 104] [(65, 37), (65, 62)] σ (res.2.2) := by
        intro y49_3 y49_4 σ49_ he F
        rw [he] at h
        replace h := q3_e h
        obtain ⟨v91, -, h⟩ := letv_e h
        exact F.t (ih _ _ _ _ _ h)
      replace h := h1
      rcases ite_or h with h | h
      · exact J49_91 _ _ _ (Option.some.inj h).symm F
      · obtain ⟨σ65, h1, h⟩ := bnd1_e h
        have F := F.c (fm_Mo_laysBesides h1) (by decide) (by decide)
        obtain ⟨r69, h1, h⟩ := bnd1_e h
        rcases ite_or h with h | h
        · exact J49_91 _ _ _ (Option.some.inj h).symm F
        · exact J49_91 _ _ _ (Option.some.inj h).symm F
set_option maxHeartbeats 4000000 in
theorem fm_Mo_bestAwning {N : Nat} {σ : Mem} {a1 : Int32} {a2 : Int32} {r : Int32} {σ' : Mem} (h : f_Mo_bestAwning N σ a1 a2 = some (r, σ')) : Fr [84, 85, 86, 87, 88, 104] [(65, 37), (65, 62)] σ σ' := by
  have F := Fr.rf [84, 85, 86, 87, 88, 104] [(65, 37), (65, 62)] σ
  unfold f_Mo_bestAwning at h
  obtain ⟨r3, h1, h⟩ := bnd1_e h
  rcases ite_or h with h | h
  · cases h
    exact F
  · obtain ⟨r12, h1, h⟩ := bnd1_e h
    rcases ite_or h with h | h
    · cases h
      exact F
    · obtain ⟨σ21, h1, h⟩ := bnd1_e h
      have F := F.c (fm_Mo_laysDay h1) (by decide) (by decide)
      obtain ⟨x32_, h1, h⟩ := bnd1_e h
      have F := F.t (fmL_Mo_bestAwning_l32 _ _ _ _ _ _ h1)
      obtain ⟨z32_3, z32_4, σ32_⟩ := x32_
      replace h := q3_e h
      have F : Fr [84, 85, 86, 87, 88, 104] [(65, 37), (65, 62)] σ σ32_ := F
      rcases ite_or h with h | h
      · cases h
        exact F
      · rcases ite_or h with h | h
        · cases h
          exact F
        · rcases ite_or h with h | h
          · cases h
            exact F
          · cases h
            exact F
set_option maxHeartbeats 4000000 in
theorem fmL_Mo_hat_l58 {N : Nat} {a1 : Int32} {a2 : Int32} {a3 : Int32} {a4 : Int32} : ∀ (k : Nat) (x5 : Int32) (σ : Mem) (res : Mem), L_Mo_hat_l58 N a1 a2 a3 a4 k x5 σ = some res → Fr [67, 84, 85, 86, 87, 88, 105] [(65, 37)] σ (res) := by
  intro k
  induction k with
  | zero => intro x5 σ res h; cases h
  | succ k ih =>
    intro x5 σ res h
    have F := Fr.rf [67, 84, 85, 86, 87, 88, 105] [(65, 37)] σ
    replace h : B_Mo_hat_l58 N a1 a2 a3 a4 (L_Mo_hat_l58 N a1 a2 a3 a4 k) x5 σ = some res := h
    unfold B_Mo_hat_l58 at h
    rcases ite_or h with h | h
    · cases h
      exact F
    · replace h := (grd_e h).2
      obtain ⟨s79, h1, h⟩ := bnd1_e h
      have J79_87 : ∀ (y79_s2 : Int32), s79 = y79_s2 → Fr [67, 84, 85, 86, 87, 88, 105] [(65, 37)] σ (res) := by
        intro y79_s2 he
        rw [he] at h
        replace h := (grd_e h).2
        obtain ⟨σ87, e_σ87, h⟩ := letv_e h
        have F := F.aI e_σ87 (by decide)
        obtain ⟨v88, -, h⟩ := letv_e h
        exact F.t (ih _ _ _ h)
      replace h := h1
      rcases ite_or h with h | h
      · exact J79_87 _ (Option.some.inj h).symm
      · exact J79_87 _ (Option.some.inj h).symm
set_option maxHeartbeats 4000000 in
theorem fmL_Mo_hat_l132 {N : Nat} {a4 : Int32} : ∀ (k : Nat) (x6 : Int32) (x7 : Int32) (σ : Mem) (res : Int32 × Mem), L_Mo_hat_l132 N a4 k x6 x7 σ = some res → Fr [67, 84, 85, 86, 87, 88, 105] [(65, 37)] σ (res.2) := by
  intro k
  induction k with
  | zero => intro x6 x7 σ res h; cases h
  | succ k ih =>
    intro x6 x7 σ res h
    have F := Fr.rf [67, 84, 85, 86, 87, 88, 105] [(65, 37)] σ
    replace h : B_Mo_hat_l132 N a4 (L_Mo_hat_l132 N a4 k) x6 x7 σ = some res := h
    unfold B_Mo_hat_l132 at h
    rcases ite_or h with h | h
    · cases h
      exact F
    · replace h := (grd_e h).2
      obtain ⟨s152, h1, h⟩ := bnd1_e h
      have J152_160 : ∀ (y152_s2 : Int32), s152 = y152_s2 → Fr [67, 84, 85, 86, 87, 88, 105] [(65, 37)] σ (res.2) := by
        intro y152_s2 he
        rw [he] at h
        obtain ⟨s160, h1, h⟩ := bnd1_e h
        have J160_196 : ∀ (y160_s1 : Int32), s160 = y160_s1 → Fr [67, 84, 85, 86, 87, 88, 105] [(65, 37)] σ (res.2) := by
          intro y160_s1 he
          rw [he] at h
          obtain ⟨v197, e_v197, h⟩ := letv_e h
          obtain ⟨v199, -, h⟩ := letv_e h
          exact F.t (ih _ _ _ _ h)
        replace h := h1
        rcases ite_or h with h | h
        · replace h := (grd_e h).2
          obtain ⟨s170, h1, h⟩ := bnd1_e h
          have J170_178 : ∀ (y170_s1 : Int32), s170 = y170_s1 → Fr [67, 84, 85, 86, 87, 88, 105] [(65, 37)] σ (res.2) := by
            intro y170_s1 he
            rw [he] at h
            obtain ⟨s180, h1, h⟩ := bnd1_e h
            have J180_188 : ∀ (y180_s2 : Int32), s180 = y180_s2 → Fr [67, 84, 85, 86, 87, 88, 105] [(65, 37)] σ (res.2) := by
              intro y180_s2 he
              rw [he] at h
              rcases ite_or h with h | h
              · exact J160_196 _ (Option.some.inj h).symm
              · exact J160_196 _ (Option.some.inj h).symm
            replace h := h1
            rcases ite_or h with h | h
            · exact J180_188 _ (Option.some.inj h).symm
            · exact J180_188 _ (Option.some.inj h).symm
          replace h := h1
          rcases ite_or h with h | h
          · exact J170_178 _ (Option.some.inj h).symm
          · exact J170_178 _ (Option.some.inj h).symm
        · exact J160_196 _ (Option.some.inj h).symm
      replace h := h1
      rcases ite_or h with h | h
      · exact J152_160 _ (Option.some.inj h).symm
      · exact J152_160 _ (Option.some.inj h).symm
set_option maxHeartbeats 4000000 in
theorem fm_Mo_hat {N : Nat} {σ : Mem} {a1 : Int32} {a2 : Int32} {a3 : Int32} {a4 : Int32} {r : Int32} {σ' : Mem} (h : f_Mo_hat N σ a1 a2 a3 a4 = some (r, σ')) : Fr [67, 84, 85, 86, 87, 88, 105] [(65, 37)] σ σ' := by
  have F := Fr.rf [67, 84, 85, 86, 87, 88, 105] [(65, 37)] σ
  unfold f_Mo_hat at h
  obtain ⟨r2, h1, h⟩ := bnd1_e h
  rcases ite_or h with h | h
  · cases h
    exact F
  · replace h := (grd_e h).2
    rcases ite_or h with h | h
    · obtain ⟨r20, h1, h⟩ := bnd1_e h
      rcases ite_or h with h | h
      · cases h
        exact F
      · obtain ⟨r33, h1, h⟩ := bnd1_e h
        rcases ite_or h with h | h
        · cases h
          exact F
        · obtain ⟨r43, h1, h⟩ := bnd1_e h
          rcases ite_or h with h | h
          · cases h
            exact F
          · obtain ⟨σ52, h1, h⟩ := bnd1_e h
            have F := F.c (fm_Mo_laysDay h1) (by decide) (by decide)
            obtain ⟨σ58_, h1, h⟩ := bnd1_e h
            have F := F.t (fmL_Mo_hat_l58 _ _ _ _ h1)
            have F : Fr [67, 84, 85, 86, 87, 88, 105] [(65, 37)] σ σ58_ := F
            replace h := (grd_e h).2
            obtain ⟨v100, e_v100, h⟩ := letv_e h
            replace h := (grd_e h).2
            obtain ⟨σ113, e_σ113, h⟩ := letv_e h
            have F := F.aI e_σ113 (by decide)
            obtain ⟨σ115, h1, h⟩ := bnd1_e h
            have F := F.c (fm_Mo_laysDay h1) (by decide) (by decide)
            replace h := (grd_e h).2
            obtain ⟨σ125, e_σ125, h⟩ := letv_e h
            have F := F.aI e_σ125 (by decide)
            exact F.t (fmL_Mo_hat_l132 _ _ _ _ _ h)
    · cases h
      exact F
set_option maxHeartbeats 4000000 in
theorem fmL_Mo_laysUnder_l2 {N : Nat} : ∀ (k : Nat) (x1 : Int32) (σ : Mem) (res : Mem), L_Mo_laysUnder_l2 N k x1 σ = some res → Fr [84, 85, 86, 87, 88, 106, 107] [] σ (res) := by
  intro k
  induction k with
  | zero => intro x1 σ res h; cases h
  | succ k ih =>
    intro x1 σ res h
    have F := Fr.rf [84, 85, 86, 87, 88, 106, 107] [] σ
    replace h : B_Mo_laysUnder_l2 N (L_Mo_laysUnder_l2 N k) x1 σ = some res := h
    unfold B_Mo_laysUnder_l2 at h
    rcases ite_or h with h | h
    · cases h
      exact F
    · replace h := (grd_e h).2
      obtain ⟨σ15, e_σ15, h⟩ := letv_e h
      have F := F.aI e_σ15 (by decide)
      obtain ⟨v16, -, h⟩ := letv_e h
      exact F.t (ih _ _ _ h)
set_option maxHeartbeats 4000000 in
theorem fmL_Mo_laysUnder_l24 {N : Nat} : ∀ (k : Nat) (x1 : Int32) (σ : Mem) (res : Mem), L_Mo_laysUnder_l24 N k x1 σ = some res → Fr [84, 85, 86, 87, 88, 106, 107] [] σ (res) := by
  intro k
  induction k with
  | zero => intro x1 σ res h; cases h
  | succ k ih =>
    intro x1 σ res h
    have F := Fr.rf [84, 85, 86, 87, 88, 106, 107] [] σ
    replace h : B_Mo_laysUnder_l24 N (L_Mo_laysUnder_l24 N k) x1 σ = some res := h
    unfold B_Mo_laysUnder_l24 at h
    rcases ite_or h with h | h
    · cases h
      exact F
    · obtain ⟨σ32, h1, h⟩ := bnd1_e h
      have F := F.c (fm_Mo_laysHour h1) (by decide) (by decide)
      obtain ⟨v35, -, h⟩ := letv_e h
      exact F.t (ih _ _ _ h)
set_option maxHeartbeats 4000000 in
theorem fmL_Mo_laysUnder_l106 {N : Nat} {a1 : Int32} : ∀ (k : Nat) (x2 : Int32) (σ : Mem) (res : Mem), L_Mo_laysUnder_l106 N a1 k x2 σ = some res → Fr [84, 85, 86, 87, 88, 106, 107] [] σ (res) := by
  intro k
  induction k with
  | zero => intro x2 σ res h; cases h
  | succ k ih =>
    intro x2 σ res h
    have F := Fr.rf [84, 85, 86, 87, 88, 106, 107] [] σ
    replace h : B_Mo_laysUnder_l106 N a1 (L_Mo_laysUnder_l106 N a1 k) x2 σ = some res := h
    unfold B_Mo_laysUnder_l106 at h
    replace h := (grd_e h).2
    rcases ite_or h with h | h
    · cases h
      exact F
    · replace h := (grd_e h).2
      replace h := (grd_e h).2
      obtain ⟨r135, h1, h⟩ := bnd1_e h
      replace h := (grd_e h).2
      obtain ⟨σ139, e_σ139, h⟩ := letv_e h
      have F := F.aI e_σ139 (by decide)
      obtain ⟨v140, -, h⟩ := letv_e h
      exact F.t (ih _ _ _ h)
set_option maxHeartbeats 4000000 in
theorem fmL_Mo_laysUnder_l43 {N : Nat} : ∀ (k : Nat) (x1 : Int32) (σ : Mem) (res : Mem), L_Mo_laysUnder_l43 N k x1 σ = some res → Fr [84, 85, 86, 87, 88, 106, 107] [] σ (res) := by
  intro k
  induction k with
  | zero => intro x1 σ res h; cases h
  | succ k ih =>
    intro x1 σ res h
    have F := Fr.rf [84, 85, 86, 87, 88, 106, 107] [] σ
    replace h : B_Mo_laysUnder_l43 N (L_Mo_laysUnder_l43 N k) x1 σ = some res := h
    unfold B_Mo_laysUnder_l43 at h
    rcases ite_or h with h | h
    · cases h
      exact F
    · replace h := (grd_e h).2
      obtain ⟨σ55, e_σ55, h⟩ := letv_e h
      have F := F.aI e_σ55 (by decide)
      replace h := (grd_e h).2
      obtain ⟨σ62, e_σ62, h⟩ := letv_e h
      have F := F.aI e_σ62 (by decide)
      obtain ⟨r65, h1, h⟩ := bnd1_e h
      obtain ⟨s68, h1, h⟩ := bnd1_e h
      have J68_146 : ∀ (σ68_ : Mem), s68 = σ68_ → Fr [84, 85, 86, 87, 88, 106, 107] [] σ σ68_ → Fr [84, 85, 86, 87, 88, 106, 107] [] σ (res) := by
        intro σ68_ he F
        rw [he] at h
        obtain ⟨v146, -, h⟩ := letv_e h
        exact F.t (ih _ _ _ h)
      replace h := h1
      rcases ite_or h with h | h
      · exact J68_146 _ (Option.some.inj h).symm F
      · replace h := (grd_e h).2
        rcases ite_or h with h | h
        · exact J68_146 _ (Option.some.inj h).symm F
        · replace h := (grd_e h).2
          obtain ⟨r95, h1, h⟩ := bnd1_e h
          replace h := (grd_e h).2
          obtain ⟨σ98, e_σ98, h⟩ := letv_e h
          have F := F.aI e_σ98 (by decide)
          replace h := (grd_e h).2
          obtain ⟨v105, e_v105, h⟩ := letv_e h
          obtain ⟨σ106_, h1, h⟩ := bnd1_e h
          have F := F.t (fmL_Mo_laysUnder_l106 _ _ _ _ h1)
          have F : Fr [84, 85, 86, 87, 88, 106, 107] [] σ σ106_ := F
          exact J68_146 _ (Option.some.inj h).symm F
set_option maxHeartbeats 4000000 in
theorem fm_Mo_laysUnder {N : Nat} {σ : Mem} {σ' : Mem} (h : f_Mo_laysUnder N σ = some σ') : Fr [84, 85, 86, 87, 88, 106, 107] [] σ σ' := by
  have F := Fr.rf [84, 85, 86, 87, 88, 106, 107] [] σ
  unfold f_Mo_laysUnder at h
  obtain ⟨σ2_, h1, h⟩ := bnd1_e h
  have F := F.t (fmL_Mo_laysUnder_l2 _ _ _ _ h1)
  have F : Fr [84, 85, 86, 87, 88, 106, 107] [] σ σ2_ := F
  obtain ⟨σ24_, h1, h⟩ := bnd1_e h
  have F := F.t (fmL_Mo_laysUnder_l24 _ _ _ _ h1)
  have F : Fr [84, 85, 86, 87, 88, 106, 107] [] σ σ24_ := F
  exact F.t (fmL_Mo_laysUnder_l43 _ _ _ _ h)
set_option maxHeartbeats 4000000 in
theorem fmL_Mo_takenDown_l8 {N : Nat} : ∀ (k : Nat) (x1 : Int32) (x2 : Int32) (σ : Mem) (res : Int32 × Mem), L_Mo_takenDown_l8 N k x1 x2 σ = some res → Fr [84, 85, 86, 87, 88, 106, 107] [] σ (res.2) := by
  intro k
  induction k with
  | zero => intro x1 x2 σ res h; cases h
  | succ k ih =>
    intro x1 x2 σ res h
    have F := Fr.rf [84, 85, 86, 87, 88, 106, 107] [] σ
    replace h : B_Mo_takenDown_l8 N (L_Mo_takenDown_l8 N k) x1 x2 σ = some res := h
    unfold B_Mo_takenDown_l8 at h
    rcases ite_or h with h | h
    · cases h
      exact F
    · obtain ⟨s26, h1, h⟩ := bnd1_e h
      have J26_55 : ∀ (y26_1 : Int32), s26 = y26_1 → Fr [84, 85, 86, 87, 88, 106, 107] [] σ (res.2) := by
        intro y26_1 he
        rw [he] at h
        obtain ⟨v55, -, h⟩ := letv_e h
        exact F.t (ih _ _ _ _ h)
      replace h := h1
      obtain ⟨s26b, h1, h⟩ := bnd1_e h
      have J26b_55 : s26b = 0 → Fr [84, 85, 86, 87, 88, 106, 107] [] σ (res.2) := by
        intro he
        rw [he] at h
        replace h := ite_t rfl h
        exact J26_55 _ (Option.some.inj h).symm
      have J26b_45 : s26b = 1 → Fr [84, 85, 86, 87, 88, 106, 107] [] σ (res.2) := by
        intro he
        rw [he] at h
        replace h := ite_f (by decide) h
        obtain ⟨r47, h1, h⟩ := bnd1_e h
        rcases ite_or h with h | h
        · exact J26_55 _ (Option.some.inj h).symm
        · exact J26_55 _ (Option.some.inj h).symm
      replace h := h1
      rcases ite_or h with h | h
      · rcases ite_or h with h | h
        · exact J26b_45 (Option.some.inj h).symm
        · obtain ⟨r35, h1, h⟩ := bnd1_e h
          obtain ⟨r39, h1, h⟩ := bnd1_e h
          rcases ite_or h with h | h
          · exact J26b_55 (Option.some.inj h).symm
          · exact J26b_45 (Option.some.inj h).symm
      · exact J26b_55 (Option.some.inj h).symm
set_option maxHeartbeats 4000000 in
theorem fm_Mo_takenDown {N : Nat} {σ : Mem} {r : Int32} {σ' : Mem} (h : f_Mo_takenDown N σ = some (r, σ')) : Fr [84, 85, 86, 87, 88, 106, 107] [] σ σ' := by
  have F := Fr.rf [84, 85, 86, 87, 88, 106, 107] [] σ
  unfold f_Mo_takenDown at h
  obtain ⟨σ1, h1, h⟩ := bnd1_e h
  have F := F.c (fm_Mo_laysUnder h1) (by decide) (by decide)
  exact F.t (fmL_Mo_takenDown_l8 _ _ _ _ _ h)
