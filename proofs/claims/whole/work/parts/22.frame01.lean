set_option maxHeartbeats 4000000 in
theorem fmL_Ta_addInt_l3 {N : Nat} {a1 : Int32} : ∀ (k : Nat) (x2 : Int32) (σ : Mem) (res : Mem), L_Ta_addInt_l3 N a1 k x2 σ = some res → Fr [2] [(1, 1)] σ (res) := by
  intro k
  induction k with
  | zero => intro x2 σ res h; cases h
  | succ k ih =>
    intro x2 σ res h
    have F := Fr.rf [2] [(1, 1)] σ
    replace h : B_Ta_addInt_l3 N a1 (L_Ta_addInt_l3 N a1 k) x2 σ = some res := h
    unfold B_Ta_addInt_l3 at h
    rcases ite_or h with h | h
    · cases h
      exact F
    · obtain ⟨s14, h1, h⟩ := bnd1_e h
      have J14_43 : ∀ (σ14_ : Mem), s14 = σ14_ → Fr [2] [(1, 1)] σ σ14_ → Fr [2] [(1, 1)] σ (res) := by
        intro σ14_ he F
        rw [he] at h
        obtain ⟨v43, -, h⟩ := letv_e h
        exact F.t (ih _ _ _ h)
      replace h := h1
      rcases ite_or h with h | h
      · exact J14_43 _ (Option.some.inj h).symm F
      · replace h := (grd_e h).2
        obtain ⟨σ32, e_σ32, h⟩ := letv_e h
        have F := F.aI e_σ32 (by decide)
        obtain ⟨σ40, e_σ40, h⟩ := letv_e h
        have F := F.fI e_σ40 (by decide)
        exact J14_43 _ (Option.some.inj h).symm F
set_option maxHeartbeats 4000000 in
theorem fm_Ta_addInt {N : Nat} {σ : Mem} {a1 : Int32} {σ' : Mem} (h : f_Ta_addInt N σ a1 = some σ') : Fr [2] [(1, 1)] σ σ' := by
  have F := Fr.rf [2] [(1, 1)] σ
  unfold f_Ta_addInt at h
  exact F.t (fmL_Ta_addInt_l3 _ _ _ _ h)
set_option maxHeartbeats 4000000 in
theorem fm_Sh_feed {N : Nat} {σ : Mem} {a1 : Int32} {a2 : Int32} {a3 : Int32} {a4 : Int32} {a5 : Int32} {r : Int32} {σ' : Mem} (h : f_Sh_feed N σ a1 a2 a3 a4 a5 = some (r, σ')) : Fr [2] [(1, 1)] σ σ' := by
  have F := Fr.rf [2] [(1, 1)] σ
  unfold f_Sh_feed at h
  obtain ⟨r6, h1, h⟩ := bnd1_e h
  rcases ite_or h with h | h
  · cases h
    exact F
  · obtain ⟨σ19, h1, h⟩ := bnd1_e h
    have F := F.c (fm_Ta_addInt h1) (by decide) (by decide)
    obtain ⟨σ27, h1, h⟩ := bnd1_e h
    have F := F.c (fm_Ta_addInt h1) (by decide) (by decide)
    obtain ⟨σ35, h1, h⟩ := bnd1_e h
    have F := F.c (fm_Ta_addInt h1) (by decide) (by decide)
    obtain ⟨σ44, h1, h⟩ := bnd1_e h
    have F := F.c (fm_Ta_addInt h1) (by decide) (by decide)
    obtain ⟨σ53, h1, h⟩ := bnd1_e h
    have F := F.c (fm_Ta_addInt h1) (by decide) (by decide)
    obtain ⟨r60, h1, h⟩ := bnd1_e h
    cases h
    exact F
set_option maxHeartbeats 4000000 in
theorem fm_La_clear_b {σ : Mem} {σ' : Mem} (h : f_La_clear_b σ = some σ') : Fr [] [(10, 1), (10, 5)] σ σ' := by
  have F := Fr.rf [] [(10, 1), (10, 5)] σ
  unfold f_La_clear_b at h
  obtain ⟨σ2, e_σ2, h⟩ := letv_e h
  have F := F.fI e_σ2 (by decide)
  obtain ⟨σ7, e_σ7, h⟩ := letv_e h
  have F := F.fI e_σ7 (by decide)
  cases h
  exact F
set_option maxHeartbeats 4000000 in
theorem fm_Rd_fail {σ : Mem} {a1 : Int32} {r : Int32} {σ' : Mem} (h : f_Rd_fail σ a1 = some (r, σ')) : Fr [] [(17, 5)] σ σ' := by
  have F := Fr.rf [] [(17, 5)] σ
  unfold f_Rd_fail at h
  obtain ⟨σ11, e_σ11, h⟩ := letv_e h
  have F := F.fI e_σ11 (by decide)
  cases h
  exact F
set_option maxHeartbeats 4000000 in
theorem fm_La_beginClause_b {σ : Mem} {a1 : Int32} {σ' : Mem} (h : f_La_beginClause_b σ a1 = some σ') : Fr [12, 13, 14] [] σ σ' := by
  have F := Fr.rf [12, 13, 14] [] σ
  unfold f_La_beginClause_b at h
  rcases ite_or h with h | h
  · cases h
    exact F
  · replace h := (grd_e h).2
    obtain ⟨σ18, e_σ18, h⟩ := letv_e h
    have F := F.aI e_σ18 (by decide)
    replace h := (grd_e h).2
    obtain ⟨σ31, e_σ31, h⟩ := letv_e h
    have F := F.aI e_σ31 (by decide)
    replace h := (grd_e h).2
    obtain ⟨σ44, e_σ44, h⟩ := letv_e h
    have F := F.aI e_σ44 (by decide)
    cases h
    exact F
set_option maxHeartbeats 4000000 in
theorem fm_La_beginCondition_b {σ : Mem} {σ' : Mem} (h : f_La_beginCondition_b σ = some σ') : Fr [14] [] σ σ' := by
  have F := Fr.rf [14] [] σ
  unfold f_La_beginCondition_b at h
  rcases ite_or h with h | h
  · cases h
    exact F
  · replace h := (grd_e h).2
    obtain ⟨σ21, e_σ21, h⟩ := letv_e h
    have F := F.aI e_σ21 (by decide)
    cases h
    exact F
set_option maxHeartbeats 4000000 in
theorem fm_Rd_step {σ : Mem} {a1 : Int32} {r : Int32} {σ' : Mem} (h : f_Rd_step σ a1 = some (r, σ')) : Fr [] [(17, 4), (17, 5)] σ σ' := by
  have F := Fr.rf [] [(17, 4), (17, 5)] σ
  unfold f_Rd_step at h
  obtain ⟨r1, h1, h⟩ := bnd1_e h
  rcases ite_or h with h | h
  · obtain ⟨σ21, e_σ21, h⟩ := letv_e h
    have F := F.fI e_σ21 (by decide)
    cases h
    exact F
  · obtain ⟨r10, σ10, h1, h⟩ := bnd2_e h
    have F := F.c (fm_Rd_fail h1) (by decide) (by decide)
    replace h := (grd_e h).2
    cases h
    exact F
set_option maxHeartbeats 4000000 in
theorem fm_La_put_b {σ : Mem} {a1 : Int32} {σ' : Mem} (h : f_La_put_b σ a1 = some σ') : Fr [11] [(10, 1)] σ σ' := by
  have F := Fr.rf [11] [(10, 1)] σ
  unfold f_La_put_b at h
  rcases ite_or h with h | h
  · cases h
    exact F
  · replace h := (grd_e h).2
    obtain ⟨σ19, e_σ19, h⟩ := letv_e h
    have F := F.aI e_σ19 (by decide)
    obtain ⟨σ27, e_σ27, h⟩ := letv_e h
    have F := F.fI e_σ27 (by decide)
    cases h
    exact F
set_option maxHeartbeats 4000000 in
theorem fm_La_putJump_b {σ : Mem} {a1 : Int32} {a2 : Int32} {r : Int32} {σ' : Mem} (h : f_La_putJump_b σ a1 a2 = some (r, σ')) : Fr [11] [(10, 1)] σ σ' := by
  have F := Fr.rf [11] [(10, 1)] σ
  unfold f_La_putJump_b at h
  obtain ⟨σ2, h1, h⟩ := bnd1_e h
  have F := F.c (fm_La_put_b h1) (by decide) (by decide)
  obtain ⟨σ7, h1, h⟩ := bnd1_e h
  have F := F.c (fm_La_put_b h1) (by decide) (by decide)
  cases h
  exact F
set_option maxHeartbeats 4000000 in
theorem fmL_La_aimHere_b_l4 {N : Nat} : ∀ (k : Nat) (x2 : Int32) (x3 : Int32) (σ : Mem) (res : Mem), L_La_aimHere_b_l4 N k x2 x3 σ = some res → Fr [11] [] σ (res) := by
  intro k
  induction k with
  | zero => intro x2 x3 σ res h; cases h
  | succ k ih =>
    intro x2 x3 σ res h
    have F := Fr.rf [11] [] σ
    replace h : B_La_aimHere_b_l4 N (L_La_aimHere_b_l4 N k) x2 x3 σ = some res := h
    unfold B_La_aimHere_b_l4 at h
    rcases ite_or h with h | h
    · cases h
      exact F
    · rcases ite_or h with h | h
      · cases h
        exact F
      · rcases ite_or h with h | h
        · cases h
          exact F
        · replace h := (grd_e h).2
          obtain ⟨v28, e_v28, h⟩ := letv_e h
          replace h := (grd_e h).2
          obtain ⟨σ39, e_σ39, h⟩ := letv_e h
          have F := F.aI e_σ39 (by decide)
          obtain ⟨v43, -, h⟩ := letv_e h
          exact F.t (ih _ _ _ _ h)
set_option maxHeartbeats 4000000 in
theorem fm_La_aimHere_b {N : Nat} {σ : Mem} {a1 : Int32} {σ' : Mem} (h : f_La_aimHere_b N σ a1 = some σ') : Fr [11] [] σ σ' := by
  have F := Fr.rf [11] [] σ
  unfold f_La_aimHere_b at h
  obtain ⟨σ4_, h1, h⟩ := bnd1_e h
  have F := F.t (fmL_La_aimHere_b_l4 _ _ _ _ _ h1)
  have F : Fr [11] [] σ σ4_ := F
  cases h
  exact F
set_option maxHeartbeats 4000000 in
theorem fm_Rd_stepDeeper {σ : Mem} {a1 : Int32} {r : Int32} {σ' : Mem} (h : f_Rd_stepDeeper σ a1 = some (r, σ')) : Fr [] [(17, 4), (17, 5)] σ σ' := by
  have F := Fr.rf [] [(17, 4), (17, 5)] σ
  unfold f_Rd_stepDeeper at h
  rcases ite_or h with h | h
  · obtain ⟨σ19, e_σ19, h⟩ := letv_e h
    have F := F.fI e_σ19 (by decide)
    cases h
    exact F
  · obtain ⟨r8, σ8, h1, h⟩ := bnd2_e h
    have F := F.c (fm_Rd_fail h1) (by decide) (by decide)
    replace h := (grd_e h).2
    cases h
    exact F
set_option maxHeartbeats 4000000 in
theorem fmL_Rd_readNumber_l4 {N : Nat} : ∀ (k : Nat) (x1 : Int32) (x2 : Int32) (σ : Mem) (res : Int32 × Mem), L_Rd_readNumber_l4 N k x1 x2 σ = some res → Fr [11] [(10, 1), (17, 4), (17, 5)] σ (res.2) := by
  intro k
  induction k with
  | zero => intro x1 x2 σ res h; cases h
  | succ k ih =>
    intro x1 x2 σ res h
    have F := Fr.rf [11] [(10, 1), (17, 4), (17, 5)] σ
    replace h : B_Rd_readNumber_l4 N (L_Rd_readNumber_l4 N k) x1 x2 σ = some res := h
    unfold B_Rd_readNumber_l4 at h
    rcases ite_or h with h | h
    · cases h
      exact F
    · obtain ⟨r10, h1, h⟩ := bnd1_e h
      rcases ite_or h with h | h
      · cases h
        exact F
      · obtain ⟨r21, h1, h⟩ := bnd1_e h
        obtain ⟨v28, e_v28, h⟩ := letv_e h
        obtain ⟨σ36, e_σ36, h⟩ := letv_e h
        have F := F.fI e_σ36 (by decide)
        obtain ⟨v39, -, h⟩ := letv_e h
        exact F.t (ih _ _ _ _ h)
set_option maxHeartbeats 4000000 in
theorem fm_Rd_readNumber {N : Nat} {σ : Mem} {r : Int32} {σ' : Mem} (h : f_Rd_readNumber N σ = some (r, σ')) : Fr [11] [(10, 1), (17, 4), (17, 5)] σ σ' := by
  have F := Fr.rf [11] [(10, 1), (17, 4), (17, 5)] σ
  unfold f_Rd_readNumber at h
  obtain ⟨x4_, h1, h⟩ := bnd1_e h
  have F := F.t (fmL_Rd_readNumber_l4 _ _ _ _ _ h1)
  obtain ⟨z4_1, σ4_⟩ := x4_
  replace h := q2_e h
  have F : Fr [11] [(10, 1), (17, 4), (17, 5)] σ σ4_ := F
  obtain ⟨r46, h1, h⟩ := bnd1_e h
  rcases ite_or h with h | h
  · obtain ⟨σ63, h1, h⟩ := bnd1_e h
    have F := F.c (fm_La_put_b h1) (by decide) (by decide)
    obtain ⟨σ71, h1, h⟩ := bnd1_e h
    have F := F.c (fm_La_put_b h1) (by decide) (by decide)
    cases h
    exact F
  · obtain ⟨r54, σ54, h1, h⟩ := bnd2_e h
    have F := F.c (fm_Rd_fail h1) (by decide) (by decide)
    replace h := (grd_e h).2
    cases h
    exact F
def HF (G : GT) : Prop := ∀ (t : Nat) (σ : Mem) (a r : Int32) (σ' : Mem), G t σ a = some (r, σ') → Fr [11] [(10, 1), (17, 4), (17, 5)] σ σ'
set_option maxHeartbeats 4000000 in
theorem fmL_Rd_readParts_l4 {N : Nat} {G : GT} (hF : HF G) {a1 : Int32} : ∀ (k : Nat) (x2 : Int32) (x3 : Int32) (σ : Mem) (res : Int32 × Mem), L_Rd_readParts_l4 N G a1 k x2 x3 σ = some res → Fr [11] [(10, 1), (17, 4), (17, 5)] σ (res.2) := by
  intro k
  induction k with
  | zero => intro x2 x3 σ res h; cases h
  | succ k ih =>
    intro x2 x3 σ res h
    have F := Fr.rf [11] [(10, 1), (17, 4), (17, 5)] σ
    replace h : B_Rd_readParts_l4 N G a1 (L_Rd_readParts_l4 N G a1 k) x2 x3 σ = some res := h
    unfold B_Rd_readParts_l4 at h
    rcases ite_or h with h | h
    · obtain ⟨r68, σ68, h1, h⟩ := bnd2_e h
      have F := F.c (fm_Rd_fail h1) (by decide) (by decide)
      replace h := (grd_e h).2
      cases h
      exact F
    · obtain ⟨r13, σ13, h1, h⟩ := bnd2_e h
      have F := F.t (hF 1 _ _ _ _ h1)
      rcases ite_or h with h | h
      · cases h
        exact F
      · obtain ⟨r22, h1, h⟩ := bnd1_e h
        rcases ite_or h with h | h
        · obtain ⟨σ47, e_σ47, h⟩ := letv_e h
          have F := F.fI e_σ47 (by decide)
          obtain ⟨r56, σ56, h1, h⟩ := bnd2_e h
          have F := F.c (fm_La_putJump_b h1) (by decide) (by decide)
          obtain ⟨v60, -, h⟩ := letv_e h
          exact F.t (ih _ _ _ _ h)
        · obtain ⟨σ35, h1, h⟩ := bnd1_e h
          have F := F.c (fm_La_aimHere_b h1) (by decide) (by decide)
          cases h
          exact F
set_option maxHeartbeats 4000000 in
theorem fm_Rd_readParts {N : Nat} {G : GT} (hF : HF G) {σ : Mem} {a1 : Int32} {r : Int32} {σ' : Mem} (h : f_Rd_readParts N G σ a1 = some (r, σ')) : Fr [11] [(10, 1), (17, 4), (17, 5)] σ σ' := by
  have F := Fr.rf [11] [(10, 1), (17, 4), (17, 5)] σ
  unfold f_Rd_readParts at h
  exact F.t (fmL_Rd_readParts_l4 hF _ _ _ _ _ h)
set_option maxHeartbeats 4000000 in
theorem fmL_Rd_readPieces_l4 {N : Nat} {G : GT} (hF : HF G) {a1 : Int32} : ∀ (k : Nat) (x2 : Int32) (x3 : Int32) (σ : Mem) (res : Int32 × Mem), L_Rd_readPieces_l4 N G a1 k x2 x3 σ = some res → Fr [11] [(10, 1), (17, 4), (17, 5)] σ (res.2) := by
  intro k
  induction k with
  | zero => intro x2 x3 σ res h; cases h
  | succ k ih =>
    intro x2 x3 σ res h
    have F := Fr.rf [11] [(10, 1), (17, 4), (17, 5)] σ
    replace h : B_Rd_readPieces_l4 N G a1 (L_Rd_readPieces_l4 N G a1 k) x2 x3 σ = some res := h
    unfold B_Rd_readPieces_l4 at h
    rcases ite_or h with h | h
    · obtain ⟨r68, σ68, h1, h⟩ := bnd2_e h
      have F := F.c (fm_Rd_fail h1) (by decide) (by decide)
      replace h := (grd_e h).2
      cases h
      exact F
    · obtain ⟨r13, σ13, h1, h⟩ := bnd2_e h
      have F := F.t (hF 2 _ _ _ _ h1)
      rcases ite_or h with h | h
      · cases h
        exact F
      · obtain ⟨r22, h1, h⟩ := bnd1_e h
        rcases ite_or h with h | h
        · obtain ⟨σ47, e_σ47, h⟩ := letv_e h
          have F := F.fI e_σ47 (by decide)
          obtain ⟨r56, σ56, h1, h⟩ := bnd2_e h
          have F := F.c (fm_La_putJump_b h1) (by decide) (by decide)
          obtain ⟨v60, -, h⟩ := letv_e h
          exact F.t (ih _ _ _ _ h)
        · obtain ⟨σ35, h1, h⟩ := bnd1_e h
          have F := F.c (fm_La_aimHere_b h1) (by decide) (by decide)
          cases h
          exact F
set_option maxHeartbeats 4000000 in
theorem fm_Rd_readPieces {N : Nat} {G : GT} (hF : HF G) {σ : Mem} {a1 : Int32} {r : Int32} {σ' : Mem} (h : f_Rd_readPieces N G σ a1 = some (r, σ')) : Fr [11] [(10, 1), (17, 4), (17, 5)] σ σ' := by
  have F := Fr.rf [11] [(10, 1), (17, 4), (17, 5)] σ
  unfold f_Rd_readPieces at h
  exact F.t (fmL_Rd_readPieces_l4 hF _ _ _ _ _ h)
set_option maxHeartbeats 4000000 in
theorem fm_Rd_readPiece {N : Nat} {G : GT} (hF : HF G) {σ : Mem} {a1 : Int32} {r : Int32} {σ' : Mem} (h : f_Rd_readPiece N G σ a1 = some (r, σ')) : Fr [11] [(10, 1), (17, 4), (17, 5)] σ σ' := by
  have F := Fr.rf [11] [(10, 1), (17, 4), (17, 5)] σ
  unfold f_Rd_readPiece at h
  obtain ⟨r1, h1, h⟩ := bnd1_e h
  rcases ite_or h with h | h
  · obtain ⟨r11, σ11, h1, h⟩ := bnd2_e h
    have F := F.c (fm_Rd_stepDeeper h1) (by decide) (by decide)
    rcases ite_or h with h | h
    · cases h
      exact F
    · obtain ⟨r21, σ21, h1, h⟩ := bnd2_e h
      have F := F.t (hF 2 _ _ _ _ h1)
      rcases ite_or h with h | h
      · cases h
        exact F
      · obtain ⟨σ34, h1, h⟩ := bnd1_e h
        have F := F.c (fm_La_put_b h1) (by decide) (by decide)
        cases h
        exact F
  · obtain ⟨r40, h1, h⟩ := bnd1_e h
    rcases ite_or h with h | h
    · obtain ⟨r50, σ50, h1, h⟩ := bnd2_e h
      have F := F.c (fm_Rd_stepDeeper h1) (by decide) (by decide)
      rcases ite_or h with h | h
      · cases h
        exact F
      · obtain ⟨r60, σ60, h1, h⟩ := bnd2_e h
        have F := F.t (hF 0 _ _ _ _ h1)
        rcases ite_or h with h | h
        · cases h
          exact F
        · obtain ⟨r69, σ69, h1, h⟩ := bnd2_e h
          have F := F.c (fm_Rd_step h1) (by decide) (by decide)
          rcases ite_or h with h | h
          · cases h
            exact F
          · cases h
            exact F
    · obtain ⟨r83, σ83, h1, h⟩ := bnd2_e h
      have F := F.t (hF 3 _ _ _ _ h1)
      rcases ite_or h with h | h
      · cases h
        exact F
      · obtain ⟨r94, h1, h⟩ := bnd1_e h
        rcases ite_or h with h | h
        · obtain ⟨r102, σ102, h1, h⟩ := bnd2_e h
          have F := F.c (fm_Rd_fail h1) (by decide) (by decide)
          replace h := (grd_e h).2
          cases h
          exact F
        · obtain ⟨r107, h1, h⟩ := bnd1_e h
          obtain ⟨σ118, e_σ118, h⟩ := letv_e h
          have F := F.fI e_σ118 (by decide)
          obtain ⟨r123, σ123, h1, h⟩ := bnd2_e h
          have F := F.t (hF 3 _ _ _ _ h1)
          rcases ite_or h with h | h
          · cases h
            exact F
          · obtain ⟨σ136, h1, h⟩ := bnd1_e h
            have F := F.c (fm_La_put_b h1) (by decide) (by decide)
            cases h
            exact F
set_option maxHeartbeats 4000000 in
theorem fmL_Rd_readSum_l12 {N : Nat} {G : GT} (hF : HF G) {a1 : Int32} : ∀ (k : Nat) (x2 : Int32) (σ : Mem) (res : (Int32 × Mem) ⊕ (Mem)), L_Rd_readSum_l12 N G a1 k x2 σ = some res → Fr [11] [(10, 1), (17, 4), (17, 5)] σ (sm res (fun r => r.2) (fun e => e)) := by
  intro k
  induction k with
  | zero => intro x2 σ res h; cases h
  | succ k ih =>
    intro x2 σ res h
    have F := Fr.rf [11] [(10, 1), (17, 4), (17, 5)] σ
    replace h : B_Rd_readSum_l12 N G a1 (L_Rd_readSum_l12 N G a1 k) x2 σ = some res := h
    unfold B_Rd_readSum_l12 at h
    rcases ite_or h with h | h
    · cases h
      exact F
    · obtain ⟨r22, h1, h⟩ := bnd1_e h
      rcases ite_or h with h | h
      · cases h
        exact F
      · obtain ⟨r29, h1, h⟩ := bnd1_e h
        obtain ⟨σ40, e_σ40, h⟩ := letv_e h
        have F := F.fI e_σ40 (by decide)
        obtain ⟨r45, σ45, h1, h⟩ := bnd2_e h
        have F := F.t (hF 4 _ _ _ _ h1)
        rcases ite_or h with h | h
        · cases h
          exact F
        · obtain ⟨σ58, h1, h⟩ := bnd1_e h
          have F := F.c (fm_La_put_b h1) (by decide) (by decide)
          obtain ⟨v61, -, h⟩ := letv_e h
          exact F.t (ih _ _ _ h)
set_option maxHeartbeats 4000000 in
theorem fm_Rd_readSum {N : Nat} {G : GT} (hF : HF G) {σ : Mem} {a1 : Int32} {r : Int32} {σ' : Mem} (h : f_Rd_readSum N G σ a1 = some (r, σ')) : Fr [11] [(10, 1), (17, 4), (17, 5)] σ σ' := by
  have F := Fr.rf [11] [(10, 1), (17, 4), (17, 5)] σ
  unfold f_Rd_readSum at h
  obtain ⟨r2, σ2, h1, h⟩ := bnd2_e h
  have F := F.t (hF 4 _ _ _ _ h1)
  rcases ite_or h with h | h
  · cases h
    exact F
  · obtain ⟨x12_, h1, h⟩ := bnd1_e h
    have F := F.t (fmL_Rd_readSum_l12 hF _ _ _ _ h1)
    rcases x12_ with r12_ | σ12_
    · replace h := sm_l h
      cases h
      exact F
    · replace h := sm_r h
      have F : Fr [11] [(10, 1), (17, 4), (17, 5)] σ σ12_ := F
      cases h
      exact F
set_option maxHeartbeats 4000000 in
theorem fmL_Rd_readTerm_l12 {N : Nat} {G : GT} (hF : HF G) {a1 : Int32} : ∀ (k : Nat) (x2 : Int32) (σ : Mem) (res : (Int32 × Mem) ⊕ (Mem)), L_Rd_readTerm_l12 N G a1 k x2 σ = some res → Fr [11] [(10, 1), (17, 4), (17, 5)] σ (sm res (fun r => r.2) (fun e => e)) := by
  intro k
  induction k with
  | zero => intro x2 σ res h; cases h
  | succ k ih =>
    intro x2 σ res h
    have F := Fr.rf [11] [(10, 1), (17, 4), (17, 5)] σ
    replace h : B_Rd_readTerm_l12 N G a1 (L_Rd_readTerm_l12 N G a1 k) x2 σ = some res := h
    unfold B_Rd_readTerm_l12 at h
    rcases ite_or h with h | h
    · cases h
      exact F
    · obtain ⟨r22, h1, h⟩ := bnd1_e h
      rcases ite_or h with h | h
      · cases h
        exact F
      · obtain ⟨r29, h1, h⟩ := bnd1_e h
        obtain ⟨σ40, e_σ40, h⟩ := letv_e h
        have F := F.fI e_σ40 (by decide)
        obtain ⟨r45, σ45, h1, h⟩ := bnd2_e h
        have F := F.t (hF 5 _ _ _ _ h1)
        rcases ite_or h with h | h
        · cases h
          exact F
        · obtain ⟨σ58, h1, h⟩ := bnd1_e h
          have F := F.c (fm_La_put_b h1) (by decide) (by decide)
          obtain ⟨v61, -, h⟩ := letv_e h
          exact F.t (ih _ _ _ h)
set_option maxHeartbeats 4000000 in
theorem fm_Rd_readTerm {N : Nat} {G : GT} (hF : HF G) {σ : Mem} {a1 : Int32} {r : Int32} {σ' : Mem} (h : f_Rd_readTerm N G σ a1 = some (r, σ')) : Fr [11] [(10, 1), (17, 4), (17, 5)] σ σ' := by
  have F := Fr.rf [11] [(10, 1), (17, 4), (17, 5)] σ
  unfold f_Rd_readTerm at h
  obtain ⟨r2, σ2, h1, h⟩ := bnd2_e h
  have F := F.t (hF 5 _ _ _ _ h1)
  rcases ite_or h with h | h
  · cases h
    exact F
  · obtain ⟨x12_, h1, h⟩ := bnd1_e h
    have F := F.t (fmL_Rd_readTerm_l12 hF _ _ _ _ h1)
    rcases x12_ with r12_ | σ12_
    · replace h := sm_l h
      cases h
      exact F
    · replace h := sm_r h
      have F : Fr [11] [(10, 1), (17, 4), (17, 5)] σ σ12_ := F
      cases h
      exact F
set_option maxHeartbeats 4000000 in
theorem fm_Rd_readFactor {N : Nat} {G : GT} (hF : HF G) {σ : Mem} {a1 : Int32} {r : Int32} {σ' : Mem} (h : f_Rd_readFactor N G σ a1 = some (r, σ')) : Fr [11] [(10, 1), (17, 4), (17, 5)] σ σ' := by
  have F := Fr.rf [11] [(10, 1), (17, 4), (17, 5)] σ
  unfold f_Rd_readFactor at h
  obtain ⟨r1, h1, h⟩ := bnd1_e h
  rcases ite_or h with h | h
  · obtain ⟨r11, σ11, h1, h⟩ := bnd2_e h
    have F := F.c (fm_Rd_stepDeeper h1) (by decide) (by decide)
    rcases ite_or h with h | h
    · cases h
      exact F
    · obtain ⟨r21, σ21, h1, h⟩ := bnd2_e h
      have F := F.t (hF 3 _ _ _ _ h1)
      rcases ite_or h with h | h
      · cases h
        exact F
      · obtain ⟨r30, σ30, h1, h⟩ := bnd2_e h
        have F := F.c (fm_Rd_step h1) (by decide) (by decide)
        rcases ite_or h with h | h
        · cases h
          exact F
        · cases h
          exact F
  · obtain ⟨r43, h1, h⟩ := bnd1_e h
    rcases ite_or h with h | h
    · obtain ⟨r57, h1, h⟩ := bnd1_e h
      rcases ite_or h with h | h
      · obtain ⟨r65, σ65, h1, h⟩ := bnd2_e h
        have F := F.c (fm_Rd_fail h1) (by decide) (by decide)
        replace h := (grd_e h).2
        cases h
        exact F
      · obtain ⟨σ74, h1, h⟩ := bnd1_e h
        have F := F.c (fm_La_put_b h1) (by decide) (by decide)
        obtain ⟨r84, h1, h⟩ := bnd1_e h
        obtain ⟨r88, h1, h⟩ := bnd1_e h
        obtain ⟨σ91, h1, h⟩ := bnd1_e h
        have F := F.c (fm_La_put_b h1) (by decide) (by decide)
        obtain ⟨σ101, e_σ101, h⟩ := letv_e h
        have F := F.fI e_σ101 (by decide)
        cases h
        exact F
    · obtain ⟨r50, σ50, h1, h⟩ := bnd2_e h
      have F := F.c (fm_Rd_readNumber h1) (by decide) (by decide)
      replace h := (grd_e h).2
      cases h
      exact F
theorem fm_rd (N : Nat) : ∀ k : Nat, HF (rd N k) := by
  intro k
  induction k with
  | zero => intro t σ a r σ1 h; cases h
  | succ k ih =>
    intro t σ a r σ1 h
    match t, h with
    | 0, h => exact fm_Rd_readParts ih h
    | 1, h => exact fm_Rd_readPieces ih h
    | 2, h => exact fm_Rd_readPiece ih h
    | 3, h => exact fm_Rd_readSum ih h
    | 4, h => exact fm_Rd_readTerm ih h
    | 5, h => exact fm_Rd_readFactor ih h
    | _ + 6, h => cases h

theorem fmr_Rd_readParts {N : Nat} {σ : Mem} {a1 r : Int32} {σ' : Mem} (h : fr_Rd_readParts N σ a1 = some (r, σ')) : Fr [11] [(10, 1), (17, 4), (17, 5)] σ σ' := fm_rd N 40 0 σ a1 r σ' h
theorem fmr_Rd_readPieces {N : Nat} {σ : Mem} {a1 r : Int32} {σ' : Mem} (h : fr_Rd_readPieces N σ a1 = some (r, σ')) : Fr [11] [(10, 1), (17, 4), (17, 5)] σ σ' := fm_rd N 40 1 σ a1 r σ' h
theorem fmr_Rd_readPiece {N : Nat} {σ : Mem} {a1 r : Int32} {σ' : Mem} (h : fr_Rd_readPiece N σ a1 = some (r, σ')) : Fr [11] [(10, 1), (17, 4), (17, 5)] σ σ' := fm_rd N 40 2 σ a1 r σ' h
theorem fmr_Rd_readSum {N : Nat} {σ : Mem} {a1 r : Int32} {σ' : Mem} (h : fr_Rd_readSum N σ a1 = some (r, σ')) : Fr [11] [(10, 1), (17, 4), (17, 5)] σ σ' := fm_rd N 40 3 σ a1 r σ' h
theorem fmr_Rd_readTerm {N : Nat} {σ : Mem} {a1 r : Int32} {σ' : Mem} (h : fr_Rd_readTerm N σ a1 = some (r, σ')) : Fr [11] [(10, 1), (17, 4), (17, 5)] σ σ' := fm_rd N 40 4 σ a1 r σ' h
theorem fmr_Rd_readFactor {N : Nat} {σ : Mem} {a1 r : Int32} {σ' : Mem} (h : fr_Rd_readFactor N σ a1 = some (r, σ')) : Fr [11] [(10, 1), (17, 4), (17, 5)] σ σ' := fm_rd N 40 5 σ a1 r σ' h
set_option maxHeartbeats 4000000 in
theorem fm_La_endClause_b {σ : Mem} {σ' : Mem} (h : f_La_endClause_b σ = some σ') : Fr [] [(10, 5)] σ σ' := by
  have F := Fr.rf [] [(10, 5)] σ
  unfold f_La_endClause_b at h
  obtain ⟨σ7, e_σ7, h⟩ := letv_e h
  have F := F.fI e_σ7 (by decide)
  cases h
  exact F
set_option maxHeartbeats 4000000 in
theorem fm_Rd_readClause {N : Nat} {σ : Mem} {r : Int32} {σ' : Mem} (h : f_Rd_readClause N σ = some (r, σ')) : Fr [11, 12, 13, 14] [(10, 1), (10, 5), (17, 4), (17, 5)] σ σ' := by
  have F := Fr.rf [11, 12, 13, 14] [(10, 1), (10, 5), (17, 4), (17, 5)] σ
  unfold f_Rd_readClause at h
  obtain ⟨r3, h1, h⟩ := bnd1_e h
  rcases ite_or h with h | h
  · obtain ⟨r11, σ11, h1, h⟩ := bnd2_e h
    have F := F.c (fm_Rd_fail h1) (by decide) (by decide)
    replace h := (grd_e h).2
    cases h
    exact F
  · obtain ⟨r19, h1, h⟩ := bnd1_e h
    rcases ite_or h with h | h
    · obtain ⟨r34, h1, h⟩ := bnd1_e h
      obtain ⟨σ45, e_σ45, h⟩ := letv_e h
      have F := F.fI e_σ45 (by decide)
      obtain ⟨σ53, h1, h⟩ := bnd1_e h
      have F := F.c (fm_La_beginClause_b h1) (by decide) (by decide)
      rcases ite_or h with h | h
      · obtain ⟨σ84, h1, h⟩ := bnd1_e h
        have F := F.c (fm_La_beginCondition_b h1) (by decide) (by decide)
        obtain ⟨r90, σ90, h1, h⟩ := bnd2_e h
        have F := F.c (fm_Rd_step h1) (by decide) (by decide)
        rcases ite_or h with h | h
        · cases h
          exact F
        · obtain ⟨r98, σ98, h1, h⟩ := bnd2_e h
          have F := F.c (fmr_Rd_readParts h1) (by decide) (by decide)
          rcases ite_or h with h | h
          · cases h
            exact F
          · obtain ⟨r107, σ107, h1, h⟩ := bnd2_e h
            have F := F.c (fm_Rd_step h1) (by decide) (by decide)
            rcases ite_or h with h | h
            · cases h
              exact F
            · obtain ⟨σ120, h1, h⟩ := bnd1_e h
              have F := F.c (fm_La_put_b h1) (by decide) (by decide)
              obtain ⟨σ127, h1, h⟩ := bnd1_e h
              have F := F.c (fm_La_endClause_b h1) (by decide) (by decide)
              cases h
              exact F
      · obtain ⟨r64, σ64, h1, h⟩ := bnd2_e h
        have F := F.c (fmr_Rd_readSum h1) (by decide) (by decide)
        rcases ite_or h with h | h
        · cases h
          exact F
        · obtain ⟨σ77, h1, h⟩ := bnd1_e h
          have F := F.c (fm_La_put_b h1) (by decide) (by decide)
          obtain ⟨σ84, h1, h⟩ := bnd1_e h
          have F := F.c (fm_La_beginCondition_b h1) (by decide) (by decide)
          obtain ⟨r90, σ90, h1, h⟩ := bnd2_e h
          have F := F.c (fm_Rd_step h1) (by decide) (by decide)
          rcases ite_or h with h | h
          · cases h
            exact F
          · obtain ⟨r98, σ98, h1, h⟩ := bnd2_e h
            have F := F.c (fmr_Rd_readParts h1) (by decide) (by decide)
            rcases ite_or h with h | h
            · cases h
              exact F
            · obtain ⟨r107, σ107, h1, h⟩ := bnd2_e h
              have F := F.c (fm_Rd_step h1) (by decide) (by decide)
              rcases ite_or h with h | h
              · cases h
                exact F
              · obtain ⟨σ120, h1, h⟩ := bnd1_e h
                have F := F.c (fm_La_put_b h1) (by decide) (by decide)
                obtain ⟨σ127, h1, h⟩ := bnd1_e h
                have F := F.c (fm_La_endClause_b h1) (by decide) (by decide)
                cases h
                exact F
    · obtain ⟨r29, σ29, h1, h⟩ := bnd2_e h
      have F := F.c (fm_Rd_fail h1) (by decide) (by decide)
      replace h := (grd_e h).2
      cases h
      exact F
set_option maxHeartbeats 4000000 in
theorem fmL_Rd_readClauses_l2 {N : Nat} : ∀ (k : Nat) (x1 : Int32) (σ : Mem) (res : Int32 × Mem), L_Rd_readClauses_l2 N k x1 σ = some res → Fr [11, 12, 13, 14] [(10, 1), (10, 5), (17, 4), (17, 5)] σ (res.2) := by
  intro k
  induction k with
  | zero => intro x1 σ res h; cases h
  | succ k ih =>
    intro x1 σ res h
    have F := Fr.rf [11, 12, 13, 14] [(10, 1), (10, 5), (17, 4), (17, 5)] σ
    replace h : B_Rd_readClauses_l2 N (L_Rd_readClauses_l2 N k) x1 σ = some res := h
    unfold B_Rd_readClauses_l2 at h
    rcases ite_or h with h | h
    · obtain ⟨r50, σ50, h1, h⟩ := bnd2_e h
      have F := F.c (fm_Rd_fail h1) (by decide) (by decide)
      replace h := (grd_e h).2
      cases h
      exact F
    · obtain ⟨r10, σ10, h1, h⟩ := bnd2_e h
      have F := F.c (fm_Rd_readClause h1) (by decide) (by decide)
      rcases ite_or h with h | h
      · cases h
        exact F
      · rcases ite_or h with h | h
        · cases h
          exact F
        · obtain ⟨r34, σ34, h1, h⟩ := bnd2_e h
          have F := F.c (fm_Rd_step h1) (by decide) (by decide)
          rcases ite_or h with h | h
          · cases h
            exact F
          · obtain ⟨v42, -, h⟩ := letv_e h
            exact F.t (ih _ _ _ h)
set_option maxHeartbeats 4000000 in
theorem fm_Rd_readClauses {N : Nat} {σ : Mem} {r : Int32} {σ' : Mem} (h : f_Rd_readClauses N σ = some (r, σ')) : Fr [11, 12, 13, 14] [(10, 1), (10, 5), (17, 4), (17, 5)] σ σ' := by
  have F := Fr.rf [11, 12, 13, 14] [(10, 1), (10, 5), (17, 4), (17, 5)] σ
  unfold f_Rd_readClauses at h
  exact F.t (fmL_Rd_readClauses_l2 _ _ _ _ h)
set_option maxHeartbeats 4000000 in
theorem fmL_Rd_readLaw_l13 {N : Nat} : ∀ (k : Nat) (x2 : Int32) (σ : Mem) (res : Mem), L_Rd_readLaw_l13 N k x2 σ = some res → Fr [11, 12, 13, 14, 18] [(10, 1), (10, 5), (17, 3), (17, 4), (17, 5)] σ (res) := by
  intro k
  induction k with
  | zero => intro x2 σ res h; cases h
  | succ k ih =>
    intro x2 σ res h
    have F := Fr.rf [11, 12, 13, 14, 18] [(10, 1), (10, 5), (17, 3), (17, 4), (17, 5)] σ
    replace h : B_Rd_readLaw_l13 N (L_Rd_readLaw_l13 N k) x2 σ = some res := h
    unfold B_Rd_readLaw_l13 at h
    rcases ite_or h with h | h
    · cases h
      exact F
    · obtain ⟨r31, h1, h⟩ := bnd1_e h
      replace h := (grd_e h).2
      obtain ⟨σ34, e_σ34, h⟩ := letv_e h
      have F := F.aI e_σ34 (by decide)
      obtain ⟨v35, -, h⟩ := letv_e h
      exact F.t (ih _ _ _ h)
set_option maxHeartbeats 4000000 in
theorem fm_Rd_readLaw {N : Nat} {σ : Mem} {a1 : Int32} {r : Int32} {σ' : Mem} (h : f_Rd_readLaw N σ a1 = some (r, σ')) : Fr [11, 12, 13, 14, 18] [(10, 1), (10, 5), (17, 3), (17, 4), (17, 5)] σ σ' := by
  have F := Fr.rf [11, 12, 13, 14, 18] [(10, 1), (10, 5), (17, 3), (17, 4), (17, 5)] σ
  unfold f_Rd_readLaw at h
  obtain ⟨r5, h1, h⟩ := bnd1_e h
  obtain ⟨σ8, e_σ8, h⟩ := letv_e h
  have F := F.fI e_σ8 (by decide)
  obtain ⟨σ13_, h1, h⟩ := bnd1_e h
  have F := F.t (fmL_Rd_readLaw_l13 _ _ _ _ h1)
  have F : Fr [11, 12, 13, 14, 18] [(10, 1), (10, 5), (17, 3), (17, 4), (17, 5)] σ σ13_ := F
  obtain ⟨σ43, e_σ43, h⟩ := letv_e h
  have F := F.fI e_σ43 (by decide)
  obtain ⟨σ48, e_σ48, h⟩ := letv_e h
  have F := F.fI e_σ48 (by decide)
  obtain ⟨σ55, h1, h⟩ := bnd1_e h
  have F := F.c (fm_La_clear_b h1) (by decide) (by decide)
  obtain ⟨r59, σ59, h1, h⟩ := bnd2_e h
  have F := F.c (fm_Rd_readClauses h1) (by decide) (by decide)
  rcases ite_or h with h | h
  · cases h
    exact F
  · obtain ⟨r69, h1, h⟩ := bnd1_e h
    cases h
    exact F
set_option maxHeartbeats 4000000 in
theorem fm_Ta_empty {σ : Mem} {σ' : Mem} (h : f_Ta_empty σ = some σ') : Fr [] [(1, 1)] σ σ' := by
  have F := Fr.rf [] [(1, 1)] σ
  unfold f_Ta_empty at h
  obtain ⟨σ2, e_σ2, h⟩ := letv_e h
  have F := F.fI e_σ2 (by decide)
  cases h
  exact F
set_option maxHeartbeats 4000000 in
theorem fm_La_copyFrom {σ : Mem} {σ' : Mem} (h : f_La_copyFrom σ = some σ') : Fr [4, 5, 6, 7] [(3, 1), (3, 5)] σ σ' := by
  have F := Fr.rf [4, 5, 6, 7] [(3, 1), (3, 5)] σ
  unfold f_La_copyFrom at h
  obtain ⟨σ13, e_σ13, h⟩ := letv_e h
  have F := F.cp e_σ13 (by decide)
  obtain ⟨σ28, e_σ28, h⟩ := letv_e h
  have F := F.cp e_σ28 (by decide)
  obtain ⟨σ43, e_σ43, h⟩ := letv_e h
  have F := F.cp e_σ43 (by decide)
  obtain ⟨σ58, e_σ58, h⟩ := letv_e h
  have F := F.cp e_σ58 (by decide)
  obtain ⟨σ66, e_σ66, h⟩ := letv_e h
  have F := F.fI e_σ66 (by decide)
  obtain ⟨σ74, e_σ74, h⟩ := letv_e h
  have F := F.fI e_σ74 (by decide)
  cases h
  exact F
set_option maxHeartbeats 4000000 in
theorem fm_Da_forgetSky {σ : Mem} {σ' : Mem} (h : f_Da_forgetSky σ = some σ') : Fr [] [(33, 6), (33, 9)] σ σ' := by
  have F := Fr.rf [] [(33, 6), (33, 9)] σ
  unfold f_Da_forgetSky at h
  obtain ⟨σ2, e_σ2, h⟩ := letv_e h
  have F := F.fI e_σ2 (by decide)
  obtain ⟨σ7, e_σ7, h⟩ := letv_e h
  have F := F.fI e_σ7 (by decide)
  cases h
  exact F
set_option maxHeartbeats 4000000 in
theorem fm_Sh_law {N : Nat} {σ : Mem} {a1 : Int32} {r : Int32} {σ' : Mem} (h : f_Sh_law N σ a1 = some (r, σ')) : Fr [4, 5, 6, 7, 11, 12, 13, 14, 18] [(1, 1), (3, 1), (3, 5), (10, 1), (10, 5), (17, 3), (17, 4), (17, 5), (33, 6), (33, 9)] σ σ' := by
  have F := Fr.rf [4, 5, 6, 7, 11, 12, 13, 14, 18] [(1, 1), (3, 1), (3, 5), (10, 1), (10, 5), (17, 3), (17, 4), (17, 5), (33, 6), (33, 9)] σ
  unfold f_Sh_law at h
  rcases ite_or h with h | h
  · cases h
    exact F
  · rcases ite_or h with h | h
    · cases h
      exact F
    · obtain ⟨r17, h1, h⟩ := bnd1_e h
      rcases ite_or h with h | h
      · obtain ⟨r30, σ30, h1, h⟩ := bnd2_e h
        have F := F.c (fm_Rd_readLaw h1) (by decide) (by decide)
        obtain ⟨σ38, h1, h⟩ := bnd1_e h
        have F := F.c (fm_Ta_empty h1) (by decide) (by decide)
        rcases ite_or h with h | h
        · cases h
          exact F
        · obtain ⟨σ53, h1, h⟩ := bnd1_e h
          have F := F.c (fm_La_copyFrom h1) (by decide) (by decide)
          obtain ⟨σ60, h1, h⟩ := bnd1_e h
          have F := F.c (fm_Da_forgetSky h1) (by decide) (by decide)
          cases h
          exact F
      · cases h
        exact F
set_option maxHeartbeats 4000000 in
theorem fm_Da_forgetShade {σ : Mem} {σ' : Mem} (h : f_Da_forgetShade σ = some σ') : Fr [] [(33, 9)] σ σ' := by
  have F := Fr.rf [] [(33, 9)] σ
  unfold f_Da_forgetShade at h
  obtain ⟨σ2, e_σ2, h⟩ := letv_e h
  have F := F.fI e_σ2 (by decide)
  cases h
  exact F
set_option maxHeartbeats 4000000 in
theorem fm_To_add {σ : Mem} {a1 : Int32} {a2 : Int32} {a3 : Int32} {a4 : Int32} {a5 : Int32} {r : Int32} {σ' : Mem} (h : f_To_add σ a1 a2 a3 a4 a5 = some (r, σ')) : Fr [20, 21, 22, 23, 24] [(19, 6), (19, 7)] σ σ' := by
  have F := Fr.rf [20, 21, 22, 23, 24] [(19, 6), (19, 7)] σ
  unfold f_To_add at h
  obtain ⟨v4, e_v4, h⟩ := letv_e h
  rcases ite_or h with h | h
  · replace h := (grd_e h).2
    obtain ⟨σ22, e_σ22, h⟩ := letv_e h
    have F := F.aI e_σ22 (by decide)
    replace h := (grd_e h).2
    obtain ⟨σ30, e_σ30, h⟩ := letv_e h
    have F := F.aI e_σ30 (by decide)
    replace h := (grd_e h).2
    obtain ⟨σ38, e_σ38, h⟩ := letv_e h
    have F := F.aI e_σ38 (by decide)
    replace h := (grd_e h).2
    obtain ⟨σ47, e_σ47, h⟩ := letv_e h
    have F := F.aI e_σ47 (by decide)
    replace h := (grd_e h).2
    obtain ⟨σ56, e_σ56, h⟩ := letv_e h
    have F := F.aI e_σ56 (by decide)
    obtain ⟨σ67, e_σ67, h⟩ := letv_e h
    have F := F.fI e_σ67 (by decide)
    obtain ⟨σ77, e_σ77, h⟩ := letv_e h
    have F := F.fI e_σ77 (by decide)
    cases h
    exact F
  · cases h
    exact F
set_option maxHeartbeats 4000000 in
theorem fm_Sh_caster {N : Nat} {σ : Mem} {a1 : Int32} {a2 : Int32} {a3 : Int32} {a4 : Int32} {a5 : Int32} {r : Int32} {σ' : Mem} (h : f_Sh_caster N σ a1 a2 a3 a4 a5 = some (r, σ')) : Fr [20, 21, 22, 23, 24] [(19, 6), (19, 7), (33, 9)] σ σ' := by
  have F := Fr.rf [20, 21, 22, 23, 24] [(19, 6), (19, 7), (33, 9)] σ
  unfold f_Sh_caster at h
  obtain ⟨s1, h1, h⟩ := bnd1_e h
  have J1_19 : ∀ (y1_s0 : Int32), s1 = y1_s0 → Fr [20, 21, 22, 23, 24] [(19, 6), (19, 7), (33, 9)] σ σ' := by
    intro y1_s0 he
    rw [he] at h
    obtain ⟨s23b, h1, h⟩ := bnd1_e h
    have J23b_65 : ∀ (y23b_7 : Int32), s23b = (0, y23b_7) → Fr [20, 21, 22, 23, 24] [(19, 6), (19, 7), (33, 9)] σ σ' := by
      intro y23b_7 he
      rw [he] at h
      replace h := q2_e h
      replace h := ite_t rfl h
      cases h
      exact F
    have J23b_95 : ∀ (y23b_7 : Int32), s23b = (1, y23b_7) → Fr [20, 21, 22, 23, 24] [(19, 6), (19, 7), (33, 9)] σ σ' := by
      intro y23b_7 he
      rw [he] at h
      replace h := q2_e h
      replace h := ite_f (by decide) h
      replace h := ite_t rfl h
      obtain ⟨σ99, h1, h⟩ := bnd1_e h
      have F := F.c (fm_Da_forgetShade h1) (by decide) (by decide)
      obtain ⟨r114, σ114, h1, h⟩ := bnd2_e h
      have F := F.c (fm_To_add h1) (by decide) (by decide)
      cases h
      exact F
    have J23b_92 : ∀ (y23b_7 : Int32), s23b = (2, y23b_7) → Fr [20, 21, 22, 23, 24] [(19, 6), (19, 7), (33, 9)] σ σ' := by
      intro y23b_7 he
      rw [he] at h
      replace h := q2_e h
      replace h := ite_f (by decide) h
      replace h := ite_f (by decide) h
      cases h
      exact F
    replace h := h1
    rcases ite_or h with h | h
    · exact J23b_65 _ (Option.some.inj h).symm
    · obtain ⟨r28, h1, h⟩ := bnd1_e h
      rcases ite_or h with h | h
      · exact J23b_65 _ (Option.some.inj h).symm
      · rcases ite_or h with h | h
        · exact J23b_65 _ (Option.some.inj h).symm
        · rcases ite_or h with h | h
          · exact J23b_65 _ (Option.some.inj h).symm
          · obtain ⟨r49, h1, h⟩ := bnd1_e h
            rcases ite_or h with h | h
            · exact J23b_65 _ (Option.some.inj h).symm
            · obtain ⟨r59, h1, h⟩ := bnd1_e h
              rcases ite_or h with h | h
              · obtain ⟨v73, e_v73, h⟩ := letv_e h
                rcases ite_or h with h | h
                · obtain ⟨r85, h1, h⟩ := bnd1_e h
                  rcases ite_or h with h | h
                  · exact J23b_95 _ (Option.some.inj h).symm
                  · exact J23b_92 _ (Option.some.inj h).symm
                · exact J23b_95 _ (Option.some.inj h).symm
              · exact J23b_65 _ (Option.some.inj h).symm
  replace h := h1
  obtain ⟨s1b, h1, h⟩ := bnd1_e h
  have J1b_14 : s1b = 0 → Fr [20, 21, 22, 23, 24] [(19, 6), (19, 7), (33, 9)] σ σ' := by
    intro he
    rw [he] at h
    replace h := ite_t rfl h
    exact J1_19 _ (Option.some.inj h).symm
  have J1b_18 : s1b = 1 → Fr [20, 21, 22, 23, 24] [(19, 6), (19, 7), (33, 9)] σ σ' := by
    intro he
    rw [he] at h
    replace h := ite_f (by decide) h
    exact J1_19 _ (Option.some.inj h).symm
  replace h := h1
  rcases ite_or h with h | h
  · exact J1b_14 (Option.some.inj h).symm
  · rcases ite_or h with h | h
    · exact J1b_14 (Option.some.inj h).symm
    · rcases ite_or h with h | h
      · exact J1b_14 (Option.some.inj h).symm
      · exact J1b_18 (Option.some.inj h).symm
set_option maxHeartbeats 4000000 in
theorem fm_Sh_awning {σ : Mem} {a1 : Int32} {a2 : Int32} {a3 : Int32} {a4 : Int32} {a5 : Int32} {r : Int32} {σ' : Mem} (h : f_Sh_awning σ a1 a2 a3 a4 a5 = some (r, σ')) : Fr [20, 21, 22, 23, 24] [(19, 6), (19, 7), (33, 9)] σ σ' := by
  have F := Fr.rf [20, 21, 22, 23, 24] [(19, 6), (19, 7), (33, 9)] σ
  unfold f_Sh_awning at h
  obtain ⟨r2, h1, h⟩ := bnd1_e h
  rcases ite_or h with h | h
  · cases h
    exact F
  · obtain ⟨r9, h1, h⟩ := bnd1_e h
    rcases ite_or h with h | h
    · cases h
      exact F
    · obtain ⟨r17, h1, h⟩ := bnd1_e h
      rcases ite_or h with h | h
      · cases h
        exact F
      · obtain ⟨r27, h1, h⟩ := bnd1_e h
        rcases ite_or h with h | h
        · rcases ite_or h with h | h
          · cases h
            exact F
          · rcases ite_or h with h | h
            · obtain ⟨σ52, h1, h⟩ := bnd1_e h
              have F := F.c (fm_Da_forgetShade h1) (by decide) (by decide)
              obtain ⟨r71, σ71, h1, h⟩ := bnd2_e h
              have F := F.c (fm_To_add h1) (by decide) (by decide)
              cases h
              exact F
            · cases h
              exact F
        · cases h
          exact F
set_option maxHeartbeats 4000000 in
theorem fm_To_takeDown {σ : Mem} {a1 : Int32} {σ' : Mem} (h : f_To_takeDown σ a1 = some σ') : Fr [] [(19, 7)] σ σ' := by
  have F := Fr.rf [] [(19, 7)] σ
  unfold f_To_takeDown at h
  obtain ⟨r2, h1, h⟩ := bnd1_e h
  rcases ite_or h with h | h
  · cases h
    exact F
  · obtain ⟨σ19, e_σ19, h⟩ := letv_e h
    have F := F.fI e_σ19 (by decide)
    cases h
    exact F
set_option maxHeartbeats 4000000 in
theorem fm_Sh_down {σ : Mem} {a1 : Int32} {r : Int32} {σ' : Mem} (h : f_Sh_down σ a1 = some (r, σ')) : Fr [] [(19, 7), (33, 9)] σ σ' := by
  have F := Fr.rf [] [(19, 7), (33, 9)] σ
  unfold f_Sh_down at h
  obtain ⟨r5, h1, h⟩ := bnd1_e h
  rcases ite_or h with h | h
  · cases h
    exact F
  · obtain ⟨σ18, h1, h⟩ := bnd1_e h
    have F := F.c (fm_To_takeDown h1) (by decide) (by decide)
    obtain ⟨σ25, h1, h⟩ := bnd1_e h
    have F := F.c (fm_Da_forgetShade h1) (by decide) (by decide)
    cases h
    exact F
set_option maxHeartbeats 4000000 in
theorem fmL_JA_fill_53178_l5 {N : Nat} {g0 n0 : Nat} {a1 : Int32} {a3 : Int32} : ∀ (k : Nat) (x2 : Int32) (σ : Mem) (res : Mem), L_JA_fill_53178_l5 N g0 n0 a1 a3 k x2 σ = some res → Fr [g0] [] σ (res) := by
  intro k
  induction k with
  | zero => intro x2 σ res h; cases h
  | succ k ih =>
    intro x2 σ res h
    have F := Fr.rf [g0] [] σ
    replace h : B_JA_fill_53178_l5 N g0 n0 a1 a3 (L_JA_fill_53178_l5 N g0 n0 a1 a3 k) x2 σ = some res := h
    unfold B_JA_fill_53178_l5 at h
    rcases ite_or h with h | h
    · cases h
      exact F
    · replace h := (grd_e h).2
      obtain ⟨σ13, e_σ13, h⟩ := letv_e h
      have F := F.aI e_σ13 List.mem_cons_self
      obtain ⟨v14, -, h⟩ := letv_e h
      exact F.t (ih _ _ _ h)
set_option maxHeartbeats 4000000 in
theorem fm_JA_fill_53178 {N : Nat} {σ : Mem} {g0 : Nat} {n0 : Nat} {a1 : Int32} {σ' : Mem} (h : f_JA_fill_53178 N σ g0 n0 a1 = some σ') : Fr [g0] [] σ σ' := by
  have F := Fr.rf [g0] [] σ
  unfold f_JA_fill_53178 at h
  obtain ⟨v4, e_v4, h⟩ := letv_e h
  exact F.t (fmL_JA_fill_53178_l5 _ _ _ _ h)
set_option maxHeartbeats 4000000 in
theorem fm_La_askHour {N : Nat} {σ : Mem} {a1 : Int32} {a2 : Int32} {σ' : Mem} (h : f_La_askHour N σ a1 a2 = some σ') : Fr [8] [] σ σ' := by
  have F := Fr.rf [8] [] σ
  unfold f_La_askHour at h
  obtain ⟨σ5, h1, h⟩ := bnd1_e h
  have F := F.c (fm_JA_fill_53178 h1) (by decide) (by decide)
  obtain ⟨σ14, e_σ14, h⟩ := letv_e h
  have F := F.aI e_σ14 (by decide)
  obtain ⟨σ21, e_σ21, h⟩ := letv_e h
  have F := F.aI e_σ21 (by decide)
  cases h
  exact F
set_option maxHeartbeats 4000000 in
theorem fmL_La_run_l7 {N : Nat} : ∀ (k : Nat) (x2 : Int32) (x3 : Int32) (x4 : Int32) (σ : Mem) (res : (Int32 × Mem) ⊕ (Mem)), L_La_run_l7 N k x2 x3 x4 σ = some res → Fr [9] [] σ (sm res (fun r => r.2) (fun e => e)) := by
  intro k
  induction k with
  | zero => intro x2 x3 x4 σ res h; cases h
  | succ k ih =>
    intro x2 x3 x4 σ res h
    have F := Fr.rf [9] [] σ
    replace h : B_La_run_l7 N (L_La_run_l7 N k) x2 x3 x4 σ = some res := h
    unfold B_La_run_l7 at h
    obtain ⟨s12b, h1, h⟩ := bnd1_e h
    have J12b_318 : ∀ (y12b_5 : Int32) (y12b_6 : Int32), s12b = (0, y12b_5, y12b_6) → Fr [9] [] σ (sm res (fun r => r.2) (fun e => e)) := by
      intro y12b_5 y12b_6 he
      rw [he] at h
      replace h := q3_e h
      replace h := ite_t rfl h
      cases h
      exact F
    have J12b_79 : ∀ (y12b_5 : Int32) (y12b_6 : Int32), s12b = (1, y12b_5, y12b_6) → Fr [9] [] σ (sm res (fun r => r.2) (fun e => e)) := by
      intro y12b_5 y12b_6 he
      rw [he] at h
      replace h := q3_e h
      replace h := ite_f (by decide) h
      replace h := ite_t rfl h
      obtain ⟨s87, h1, h⟩ := bnd1_e h
      have J87_102 : ∀ (y87_s2 : Int32), s87 = y87_s2 → Fr [9] [] σ (sm res (fun r => r.2) (fun e => e)) := by
        intro y87_s2 he
        rw [he] at h
        replace h := (grd_e h).2
        obtain ⟨σ102, e_σ102, h⟩ := letv_e h
        have F := F.aI e_σ102 (by decide)
        obtain ⟨v103, -, h⟩ := letv_e h
        obtain ⟨v106, -, h⟩ := letv_e h
        obtain ⟨v312, -, h⟩ := letv_e h
        exact F.t (ih _ _ _ _ _ h)
      replace h := h1
      rcases ite_or h with h | h
      · exact J87_102 _ (Option.some.inj h).symm
      · replace h := (grd_e h).2
        exact J87_102 _ (Option.some.inj h).symm
    have J12b_112 : ∀ (y12b_5 : Int32) (y12b_6 : Int32), s12b = (2, y12b_5, y12b_6) → Fr [9] [] σ (sm res (fun r => r.2) (fun e => e)) := by
      intro y12b_5 y12b_6 he
      rw [he] at h
      replace h := q3_e h
      replace h := ite_f (by decide) h
      replace h := ite_f (by decide) h
      obtain ⟨s113b, h1, h⟩ := bnd1_e h
      have J113b_121 : s113b = 0 → Fr [9] [] σ (sm res (fun r => r.2) (fun e => e)) := by
        intro he
        rw [he] at h
        replace h := ite_t rfl h
        rcases ite_or h with h | h
        · cases h
          exact F
        · replace h := (grd_e h).2
          cases h
          exact F
      have J113b_150 : s113b = 1 → Fr [9] [] σ (sm res (fun r => r.2) (fun e => e)) := by
        intro he
        rw [he] at h
        replace h := ite_f (by decide) h
        replace h := ite_t rfl h
        replace h := (grd_e h).2
        obtain ⟨s158, h1, h⟩ := bnd1_e h
        have J158_166 : ∀ (y158_s0 : Int32), s158 = y158_s0 → Fr [9] [] σ (sm res (fun r => r.2) (fun e => e)) := by
          intro y158_s0 he
          rw [he] at h
          obtain ⟨s169, h1, h⟩ := bnd1_e h
          have J169_177 : ∀ (y169_s1 : Int32), s169 = y169_s1 → Fr [9] [] σ (sm res (fun r => r.2) (fun e => e)) := by
            intro y169_s1 he
            rw [he] at h
            obtain ⟨s177, h1, h⟩ := bnd1_e h
            have J177_185 : ∀ (y177_s0 : Int32), s177 = y177_s0 → Fr [9] [] σ (sm res (fun r => r.2) (fun e => e)) := by
              intro y177_s0 he
              rw [he] at h
              obtain ⟨s190, h1, h⟩ := bnd1_e h
              have J190_198 : ∀ (y190_s1 : Int32), s190 = y190_s1 → Fr [9] [] σ (sm res (fun r => r.2) (fun e => e)) := by
                intro y190_s1 he
                rw [he] at h
                obtain ⟨v199, e_v199, h⟩ := letv_e h
                obtain ⟨s202, h1, h⟩ := bnd1_e h
                have J202_213 : ∀ (y202_s0 : Int32), s202 = y202_s0 → Fr [9] [] σ (sm res (fun r => r.2) (fun e => e)) := by
                  intro y202_s0 he
                  rw [he] at h
                  obtain ⟨v312, -, h⟩ := letv_e h
                  exact F.t (ih _ _ _ _ _ h)
                replace h := h1
                rcases ite_or h with h | h
                · exact J202_213 _ (Option.some.inj h).symm
                · exact J202_213 _ (Option.some.inj h).symm
              replace h := h1
              rcases ite_or h with h | h
              · exact J190_198 _ (Option.some.inj h).symm
              · exact J190_198 _ (Option.some.inj h).symm
            replace h := h1
            rcases ite_or h with h | h
            · exact J177_185 _ (Option.some.inj h).symm
            · exact J177_185 _ (Option.some.inj h).symm
          replace h := h1
          rcases ite_or h with h | h
          · exact J169_177 _ (Option.some.inj h).symm
          · exact J169_177 _ (Option.some.inj h).symm
        replace h := h1
        rcases ite_or h with h | h
        · exact J158_166 _ (Option.some.inj h).symm
        · exact J158_166 _ (Option.some.inj h).symm
      have J113b_277 : s113b = 2 → Fr [9] [] σ (sm res (fun r => r.2) (fun e => e)) := by
        intro he
        rw [he] at h
        replace h := ite_f (by decide) h
        replace h := ite_f (by decide) h
        replace h := ite_t rfl h
        cases h
        exact F
      have J113b_279 : s113b = 3 → Fr [9] [] σ (sm res (fun r => r.2) (fun e => e)) := by
        intro he
        rw [he] at h
        replace h := ite_f (by decide) h
        replace h := ite_f (by decide) h
        replace h := ite_f (by decide) h
        replace h := ite_t rfl h
        obtain ⟨v279, -, h⟩ := letv_e h
        replace h := (grd_e h).2
        replace h := (grd_e h).2
        obtain ⟨r305, h1, h⟩ := bnd1_e h
        replace h := (grd_e h).2
        obtain ⟨σ308, e_σ308, h⟩ := letv_e h
        have F := F.aI e_σ308 (by decide)
        obtain ⟨v309, -, h⟩ := letv_e h
        obtain ⟨v312, -, h⟩ := letv_e h
        exact F.t (ih _ _ _ _ _ h)
      have J113b_223 : s113b = 4 → Fr [9] [] σ (sm res (fun r => r.2) (fun e => e)) := by
        intro he
        rw [he] at h
        replace h := ite_f (by decide) h
        replace h := ite_f (by decide) h
        replace h := ite_f (by decide) h
        replace h := ite_f (by decide) h
        replace h := (grd_e h).2
        replace h := (grd_e h).2
        obtain ⟨σ240, e_σ240, h⟩ := letv_e h
        have F := F.aI e_σ240 (by decide)
        obtain ⟨v241, -, h⟩ := letv_e h
        obtain ⟨v312, -, h⟩ := letv_e h
        exact F.t (ih _ _ _ _ _ h)
      replace h := h1
      rcases ite_or h with h | h
      · exact J113b_121 (Option.some.inj h).symm
      · rcases ite_or h with h | h
        · exact J113b_121 (Option.some.inj h).symm
        · rcases ite_or h with h | h
          · exact J113b_150 (Option.some.inj h).symm
          · rcases ite_or h with h | h
            · exact J113b_150 (Option.some.inj h).symm
            · rcases ite_or h with h | h
              · exact J113b_223 (Option.some.inj h).symm
              · rcases ite_or h with h | h
                · exact J113b_277 (Option.some.inj h).symm
                · replace h := (grd_e h).2
                  rcases ite_or h with h | h
                  · rcases ite_or h with h | h
                    · exact J113b_277 (Option.some.inj h).symm
                    · rcases ite_or h with h | h
                      · exact J113b_277 (Option.some.inj h).symm
                      · exact J113b_279 (Option.some.inj h).symm
                  · exact J113b_279 (Option.some.inj h).symm
    replace h := h1
    rcases ite_or h with h | h
    · exact J12b_318 _ _ (Option.some.inj h).symm
    · rcases ite_or h with h | h
      · exact J12b_318 _ _ (Option.some.inj h).symm
      · rcases ite_or h with h | h
        · exact J12b_318 _ _ (Option.some.inj h).symm
        · rcases ite_or h with h | h
          · exact J12b_318 _ _ (Option.some.inj h).symm
          · replace h := (grd_e h).2
            obtain ⟨v40, e_v40, h⟩ := letv_e h
            replace h := (grd_e h).2
            obtain ⟨v50, e_v50, h⟩ := letv_e h
            rcases ite_or h with h | h
            · exact J12b_79 _ _ (Option.some.inj h).symm
            · rcases ite_or h with h | h
              · rcases ite_or h with h | h
                · exact J12b_112 _ _ (Option.some.inj h).symm
                · rcases ite_or h with h | h
                  · exact J12b_112 _ _ (Option.some.inj h).symm
                  · exact J12b_79 _ _ (Option.some.inj h).symm
              · exact J12b_112 _ _ (Option.some.inj h).symm
set_option maxHeartbeats 4000000 in
theorem fm_La_run {N : Nat} {σ : Mem} {a1 : Int32} {r : Int32} {σ' : Mem} (h : f_La_run N σ a1 = some (r, σ')) : Fr [9] [] σ σ' := by
  have F := Fr.rf [9] [] σ
  unfold f_La_run at h
  obtain ⟨x7_, h1, h⟩ := bnd1_e h
  have F := F.t (fmL_La_run_l7 _ _ _ _ _ _ h1)
  rcases x7_ with r7_ | σ7_
  · replace h := sm_l h
    cases h
    exact F
  · replace h := sm_r h
    have F : Fr [9] [] σ σ7_ := F
    cases h
    exact F
set_option maxHeartbeats 4000000 in
theorem fmL_La_anyHolds_l2 {N : Nat} {a1 : Int32} : ∀ (k : Nat) (x2 : Int32) (σ : Mem) (res : Int32 × Mem), L_La_anyHolds_l2 N a1 k x2 σ = some res → Fr [9] [] σ (res.2) := by
  intro k
  induction k with
  | zero => intro x2 σ res h; cases h
  | succ k ih =>
    intro x2 σ res h
    have F := Fr.rf [9] [] σ
    replace h : B_La_anyHolds_l2 N a1 (L_La_anyHolds_l2 N a1 k) x2 σ = some res := h
    unfold B_La_anyHolds_l2 at h
    obtain ⟨s7b, h1, h⟩ := bnd1_e h
    have J7b_41 : ∀ (σ7b_ : Mem), s7b = (0, σ7b_) → Fr [9] [] σ σ7b_ → Fr [9] [] σ (res.2) := by
      intro σ7b_ he F
      rw [he] at h
      replace h := q2_e h
      replace h := ite_t rfl h
      cases h
      exact F
    have J7b_35 : ∀ (σ7b_ : Mem), s7b = (1, σ7b_) → Fr [9] [] σ σ7b_ → Fr [9] [] σ (res.2) := by
      intro σ7b_ he F
      rw [he] at h
      replace h := q2_e h
      replace h := ite_f (by decide) h
      replace h := ite_t rfl h
      obtain ⟨v35, -, h⟩ := letv_e h
      exact F.t (ih _ _ _ h)
    have J7b_33 : ∀ (σ7b_ : Mem), s7b = (2, σ7b_) → Fr [9] [] σ σ7b_ → Fr [9] [] σ (res.2) := by
      intro σ7b_ he F
      rw [he] at h
      replace h := q2_e h
      replace h := ite_f (by decide) h
      replace h := ite_f (by decide) h
      cases h
      exact F
    replace h := h1
    rcases ite_or h with h | h
    · exact J7b_41 _ (Option.some.inj h).symm F
    · replace h := (grd_e h).2
      rcases ite_or h with h | h
      · replace h := (grd_e h).2
        obtain ⟨r27, σ27, h1, h⟩ := bnd2_e h
        have F := F.c (fm_La_run h1) (by decide) (by decide)
        rcases ite_or h with h | h
        · exact J7b_35 _ (Option.some.inj h).symm F
        · exact J7b_33 _ (Option.some.inj h).symm F
      · exact J7b_35 _ (Option.some.inj h).symm F
set_option maxHeartbeats 4000000 in
theorem fm_La_anyHolds {N : Nat} {σ : Mem} {a1 : Int32} {r : Int32} {σ' : Mem} (h : f_La_anyHolds N σ a1 = some (r, σ')) : Fr [9] [] σ σ' := by
  have F := Fr.rf [9] [] σ
  unfold f_La_anyHolds at h
  exact F.t (fmL_La_anyHolds_l2 _ _ _ _ h)
set_option maxHeartbeats 4000000 in
theorem fmL_La_valueOf_l3 {N : Nat} {a1 : Int32} {a2 : Int32} {a3 : Int32} : ∀ (k : Nat) (x4 : Int32) (σ : Mem) (res : Int32 × Mem), L_La_valueOf_l3 N a1 a2 a3 k x4 σ = some res → Fr [9] [] σ (res.2) := by
  intro k
  induction k with
  | zero => intro x4 σ res h; cases h
  | succ k ih =>
    intro x4 σ res h
    have F := Fr.rf [9] [] σ
    replace h : B_La_valueOf_l3 N a1 a2 a3 (L_La_valueOf_l3 N a1 a2 a3 k) x4 σ = some res := h
    unfold B_La_valueOf_l3 at h
    obtain ⟨s9b, h1, h⟩ := bnd1_e h
    have J9b_63 : ∀ (σ9b_ : Mem), s9b = (0, σ9b_) → Fr [9] [] σ σ9b_ → Fr [9] [] σ (res.2) := by
      intro σ9b_ he F
      rw [he] at h
      replace h := q2_e h
      replace h := ite_t rfl h
      cases h
      exact F
    have J9b_57 : ∀ (σ9b_ : Mem), s9b = (1, σ9b_) → Fr [9] [] σ σ9b_ → Fr [9] [] σ (res.2) := by
      intro σ9b_ he F
      rw [he] at h
      replace h := q2_e h
      replace h := ite_f (by decide) h
      replace h := ite_t rfl h
      obtain ⟨v57, -, h⟩ := letv_e h
      exact F.t (ih _ _ _ h)
    have J9b_37 : ∀ (σ9b_ : Mem), s9b = (2, σ9b_) → Fr [9] [] σ σ9b_ → Fr [9] [] σ (res.2) := by
      intro σ9b_ he F
      rw [he] at h
      replace h := q2_e h
      replace h := ite_f (by decide) h
      replace h := ite_f (by decide) h
      replace h := (grd_e h).2
      obtain ⟨r47, σ47, h1, h⟩ := bnd2_e h
      have F := F.c (fm_La_run h1) (by decide) (by decide)
      obtain ⟨r50, h1, h⟩ := bnd1_e h
      obtain ⟨r53, h1, h⟩ := bnd1_e h
      cases h
      exact F
    replace h := h1
    rcases ite_or h with h | h
    · exact J9b_63 _ (Option.some.inj h).symm F
    · replace h := (grd_e h).2
      rcases ite_or h with h | h
      · replace h := (grd_e h).2
        obtain ⟨r31, σ31, h1, h⟩ := bnd2_e h
        have F := F.c (fm_La_run h1) (by decide) (by decide)
        rcases ite_or h with h | h
        · exact J9b_57 _ (Option.some.inj h).symm F
        · exact J9b_37 _ (Option.some.inj h).symm F
      · exact J9b_57 _ (Option.some.inj h).symm F
set_option maxHeartbeats 4000000 in
theorem fm_La_valueOf {N : Nat} {σ : Mem} {a1 : Int32} {a2 : Int32} {a3 : Int32} {r : Int32} {σ' : Mem} (h : f_La_valueOf N σ a1 a2 a3 = some (r, σ')) : Fr [9] [] σ σ' := by
  have F := Fr.rf [9] [] σ
  unfold f_La_valueOf at h
  exact F.t (fmL_La_valueOf_l3 _ _ _ _ h)
set_option maxHeartbeats 4000000 in
theorem fmL_Da_knowSky_l2 {N : Nat} : ∀ (k : Nat) (x1 : Int32) (σ : Mem) (res : Mem), L_Da_knowSky_l2 N k x1 σ = some res → Fr [8, 9, 34, 35, 36, 37] [(33, 6)] σ (res) := by
  intro k
  induction k with
  | zero => intro x1 σ res h; cases h
  | succ k ih =>
    intro x1 σ res h
    have F := Fr.rf [8, 9, 34, 35, 36, 37] [(33, 6)] σ
    replace h : B_Da_knowSky_l2 N (L_Da_knowSky_l2 N k) x1 σ = some res := h
    unfold B_Da_knowSky_l2 at h
    rcases ite_or h with h | h
    · obtain ⟨σ102, e_σ102, h⟩ := letv_e h
      have F := F.fI e_σ102 (by decide)
      cases h
      exact F
    · obtain ⟨σ20, h1, h⟩ := bnd1_e h
      have F := F.c (fm_La_askHour h1) (by decide) (by decide)
      obtain ⟨r34, σ34, h1, h⟩ := bnd2_e h
      have F := F.c (fm_La_anyHolds h1) (by decide) (by decide)
      replace h := (grd_e h).2
      obtain ⟨σ37, e_σ37, h⟩ := letv_e h
      have F := F.aI e_σ37 (by decide)
      obtain ⟨r53, σ53, h1, h⟩ := bnd2_e h
      have F := F.c (fm_La_valueOf h1) (by decide) (by decide)
      replace h := (grd_e h).2
      obtain ⟨σ56, e_σ56, h⟩ := letv_e h
      have F := F.aI e_σ56 (by decide)
      obtain ⟨r72, σ72, h1, h⟩ := bnd2_e h
      have F := F.c (fm_La_valueOf h1) (by decide) (by decide)
      replace h := (grd_e h).2
      obtain ⟨σ75, e_σ75, h⟩ := letv_e h
      have F := F.aI e_σ75 (by decide)
      obtain ⟨r90, σ90, h1, h⟩ := bnd2_e h
      have F := F.c (fm_La_valueOf h1) (by decide) (by decide)
      replace h := (grd_e h).2
      obtain ⟨σ93, e_σ93, h⟩ := letv_e h
      have F := F.aI e_σ93 (by decide)
      obtain ⟨v94, -, h⟩ := letv_e h
      exact F.t (ih _ _ _ h)
set_option maxHeartbeats 4000000 in
theorem fm_Da_knowSky {N : Nat} {σ : Mem} {σ' : Mem} (h : f_Da_knowSky N σ = some σ') : Fr [8, 9, 34, 35, 36, 37] [(33, 6)] σ σ' := by
  have F := Fr.rf [8, 9, 34, 35, 36, 37] [(33, 6)] σ
  unfold f_Da_knowSky at h
  exact F.t (fmL_Da_knowSky_l2 _ _ _ _ h)
set_option maxHeartbeats 4000000 in
theorem fm_Da_mark {σ : Mem} {a0 : Int32} {a1 : Int32} {g2 : Nat} {n2 : Nat} {a3 : Int32} {a4 : Int32} {σ' : Mem} (h : f_Da_mark σ a0 a1 g2 n2 a3 a4 = some σ') : Fr [g2] [] σ σ' := by
  have F := Fr.rf [g2] [] σ
  unfold f_Da_mark at h
  obtain ⟨r2, h1, h⟩ := bnd1_e h
  rcases ite_or h with h | h
  · cases h
    exact F
  · obtain ⟨v17, e_v17, h⟩ := letv_e h
    replace h := (grd_e h).2
    replace h := (grd_e h).2
    obtain ⟨σ22, e_σ22, h⟩ := letv_e h
    have F := F.aI e_σ22 List.mem_cons_self
    cases h
    exact F
set_option maxHeartbeats 4000000 in
theorem fmL_Da_spread_l185 {N : Nat} {a2 : Int32} {g3 n3 : Nat} {a4 : Int32} {a5 : Int32} {a6 : Int32} {a7 : Int32} {a8 : Int32} {a9 : Int32} : ∀ (k : Nat) (x10 : Int32) (σ : Mem) (res : Mem), L_Da_spread_l185 N a2 g3 n3 a4 a5 a6 a7 a8 a9 k x10 σ = some res → Fr [g3] [] σ (res) := by
  intro k
  induction k with
  | zero => intro x10 σ res h; cases h
  | succ k ih =>
    intro x10 σ res h
    have F := Fr.rf [g3] [] σ
    replace h : B_Da_spread_l185 N a2 g3 n3 a4 a5 a6 a7 a8 a9 (L_Da_spread_l185 N a2 g3 n3 a4 a5 a6 a7 a8 a9 k) x10 σ = some res := h
    unfold B_Da_spread_l185 at h
    rcases ite_or h with h | h
    · cases h
      exact F
    · replace h := (grd_e h).2
      replace h := (grd_e h).2
      replace h := (grd_e h).2
      replace h := (grd_e h).2
      obtain ⟨σ227, h1, h⟩ := bnd1_e h
      have F := F.c (fm_Da_mark h1) (fun _ h => h) (by decide)
      obtain ⟨v230, -, h⟩ := letv_e h
      exact F.t (ih _ _ _ h)
set_option maxHeartbeats 4000000 in
theorem fmL_Da_spread_l55 {N : Nat} {a1 : Int32} {g3 n3 : Nat} {a4 : Int32} {a5 : Int32} {a6 : Int32} {a7 : Int32} {a8 : Int32} : ∀ (k : Nat) (x9 : Int32) (σ : Mem) (res : Mem), L_Da_spread_l55 N a1 g3 n3 a4 a5 a6 a7 a8 k x9 σ = some res → Fr [g3] [] σ (res) := by
  intro k
  induction k with
  | zero => intro x9 σ res h; cases h
  | succ k ih =>
    intro x9 σ res h
    have F := Fr.rf [g3] [] σ
    replace h : B_Da_spread_l55 N a1 g3 n3 a4 a5 a6 a7 a8 (L_Da_spread_l55 N a1 g3 n3 a4 a5 a6 a7 a8 k) x9 σ = some res := h
    unfold B_Da_spread_l55 at h
    replace h := (grd_e h).2
    rcases ite_or h with h | h
    · cases h
      exact F
    · obtain ⟨r75, h1, h⟩ := bnd1_e h
      obtain ⟨r86, h1, h⟩ := bnd1_e h
      obtain ⟨σ96, h1, h⟩ := bnd1_e h
      have F := F.c (fm_Da_mark h1) (fun _ h => h) (by decide)
      obtain ⟨v99, -, h⟩ := letv_e h
      exact F.t (ih _ _ _ h)
set_option maxHeartbeats 4000000 in
theorem fm_Da_spread {N : Nat} {σ : Mem} {a1 : Int32} {a2 : Int32} {g3 : Nat} {n3 : Nat} {a4 : Int32} {a5 : Int32} {σ' : Mem} (h : f_Da_spread N σ a1 a2 g3 n3 a4 a5 = some σ') : Fr [g3] [] σ σ' := by
  have F := Fr.rf [g3] [] σ
  unfold f_Da_spread at h
  replace h := (grd_e h).2
  obtain ⟨v12, e_v12, h⟩ := letv_e h
  replace h := (grd_e h).2
  obtain ⟨v26, e_v26, h⟩ := letv_e h
  replace h := (grd_e h).2
  rcases ite_or h with h | h
  · replace h := (grd_e h).2
    obtain ⟨v50, e_v50, h⟩ := letv_e h
    exact F.t (fmL_Da_spread_l55 _ _ _ _ h)
  · replace h := (grd_e h).2
    obtain ⟨s116, h1, h⟩ := bnd1_e h
    have J116_131 : ∀ (σ116_ : Mem), s116 = σ116_ → Fr [g3] [] σ σ116_ → Fr [g3] [] σ σ' := by
      intro σ116_ he F
      rw [he] at h
      replace h := (grd_e h).2
      obtain ⟨r137, h1, h⟩ := bnd1_e h
      replace h := (grd_e h).2
      obtain ⟨r146, h1, h⟩ := bnd1_e h
      obtain ⟨r149, h1, h⟩ := bnd1_e h
      rcases ite_or h with h | h
      · cases h
        exact F
      · replace h := (grd_e h).2
        obtain ⟨r177, h1, h⟩ := bnd1_e h
        exact F.t (fmL_Da_spread_l185 _ _ _ _ h)
    replace h := h1
    rcases ite_or h with h | h
    · obtain ⟨σ128, h1, h⟩ := bnd1_e h
      have F := F.c (fm_Da_mark h1) (fun _ h => h) (by decide)
      exact J116_131 _ (Option.some.inj h).symm F
    · exact J116_131 _ (Option.some.inj h).symm F
set_option maxHeartbeats 4000000 in
theorem fmL_Da_knowShade_l10 {N : Nat} : ∀ (k : Nat) (x1 : Int32) (σ : Mem) (res : Mem), L_Da_knowShade_l10 N k x1 σ = some res → Fr [38, 39] [(33, 9)] σ (res) := by
  intro k
  induction k with
  | zero => intro x1 σ res h; cases h
  | succ k ih =>
    intro x1 σ res h
    have F := Fr.rf [38, 39] [(33, 9)] σ
    replace h : B_Da_knowShade_l10 N (L_Da_knowShade_l10 N k) x1 σ = some res := h
    unfold B_Da_knowShade_l10 at h
    rcases ite_or h with h | h
    · cases h
      exact F
    · replace h := (grd_e h).2
      obtain ⟨σ23, e_σ23, h⟩ := letv_e h
      have F := F.aI e_σ23 (by decide)
      obtain ⟨v24, -, h⟩ := letv_e h
      exact F.t (ih _ _ _ h)
set_option maxHeartbeats 4000000 in
theorem fmL_Da_knowShade_l32 {N : Nat} : ∀ (k : Nat) (x1 : Int32) (σ : Mem) (res : Mem), L_Da_knowShade_l32 N k x1 σ = some res → Fr [38, 39] [(33, 9)] σ (res) := by
  intro k
  induction k with
  | zero => intro x1 σ res h; cases h
  | succ k ih =>
    intro x1 σ res h
    have F := Fr.rf [38, 39] [(33, 9)] σ
    replace h : B_Da_knowShade_l32 N (L_Da_knowShade_l32 N k) x1 σ = some res := h
    unfold B_Da_knowShade_l32 at h
    rcases ite_or h with h | h
    · cases h
      exact F
    · obtain ⟨r49, h1, h⟩ := bnd1_e h
      obtain ⟨s52, h1, h⟩ := bnd1_e h
      have J52_70 : ∀ (σ52_ : Mem), s52 = σ52_ → Fr [38, 39] [(33, 9)] σ σ52_ → Fr [38, 39] [(33, 9)] σ (res) := by
        intro σ52_ he F
        rw [he] at h
        obtain ⟨v70, -, h⟩ := letv_e h
        exact F.t (ih _ _ _ h)
      replace h := h1
      rcases ite_or h with h | h
      · exact J52_70 _ (Option.some.inj h).symm F
      · replace h := (grd_e h).2
        replace h := (grd_e h).2
        obtain ⟨σ69, e_σ69, h⟩ := letv_e h
        have F := F.aI e_σ69 (by decide)
        exact J52_70 _ (Option.some.inj h).symm F
set_option maxHeartbeats 4000000 in
theorem fmL_Da_knowShade_l78 {N : Nat} : ∀ (k : Nat) (x1 : Int32) (σ : Mem) (res : Mem), L_Da_knowShade_l78 N k x1 σ = some res → Fr [38, 39] [(33, 9)] σ (res) := by
  intro k
  induction k with
  | zero => intro x1 σ res h; cases h
  | succ k ih =>
    intro x1 σ res h
    have F := Fr.rf [38, 39] [(33, 9)] σ
    replace h : B_Da_knowShade_l78 N (L_Da_knowShade_l78 N k) x1 σ = some res := h
    unfold B_Da_knowShade_l78 at h
    rcases ite_or h with h | h
    · obtain ⟨σ148, e_σ148, h⟩ := letv_e h
      have F := F.fI e_σ148 (by decide)
      cases h
      exact F
    · obtain ⟨v96, e_v96, h⟩ := letv_e h
      obtain ⟨v101, e_v101, h⟩ := letv_e h
      replace h := (grd_e h).2
      obtain ⟨s108, h1, h⟩ := bnd1_e h
      have J108_140 : ∀ (σ108_ : Mem), s108 = σ108_ → Fr [38, 39] [(33, 9)] σ σ108_ → Fr [38, 39] [(33, 9)] σ (res) := by
        intro σ108_ he F
        rw [he] at h
        obtain ⟨v140, -, h⟩ := letv_e h
        exact F.t (ih _ _ _ h)
      replace h := h1
      rcases ite_or h with h | h
      · exact J108_140 _ (Option.some.inj h).symm F
      · obtain ⟨r116, h1, h⟩ := bnd1_e h
        rcases ite_or h with h | h
        · exact J108_140 _ (Option.some.inj h).symm F
        · obtain ⟨σ137, h1, h⟩ := bnd1_e h
          have F := F.c (fm_Da_spread h1) (by decide) (by decide)
          exact J108_140 _ (Option.some.inj h).symm F
set_option maxHeartbeats 4000000 in
theorem fm_Da_knowShade {N : Nat} {σ : Mem} {σ' : Mem} (h : f_Da_knowShade N σ = some σ') : Fr [38, 39] [(33, 9)] σ σ' := by
  have F := Fr.rf [38, 39] [(33, 9)] σ
  unfold f_Da_knowShade at h
  obtain ⟨σ5, h1, h⟩ := bnd1_e h
  have F := F.c (fm_JA_fill_53178 h1) (by decide) (by decide)
  obtain ⟨σ10_, h1, h⟩ := bnd1_e h
  have F := F.t (fmL_Da_knowShade_l10 _ _ _ _ h1)
  have F : Fr [38, 39] [(33, 9)] σ σ10_ := F
  obtain ⟨σ32_, h1, h⟩ := bnd1_e h
  have F := F.t (fmL_Da_knowShade_l32 _ _ _ _ h1)
  have F : Fr [38, 39] [(33, 9)] σ σ32_ := F
  exact F.t (fmL_Da_knowShade_l78 _ _ _ _ h)
set_option maxHeartbeats 4000000 in
theorem fm_Da_know {N : Nat} {σ : Mem} {σ' : Mem} (h : f_Da_know N σ = some σ') : Fr [8, 9, 34, 35, 36, 37, 38, 39] [(33, 6), (33, 9)] σ σ' := by
  have F := Fr.rf [8, 9, 34, 35, 36, 37, 38, 39] [(33, 6), (33, 9)] σ
  unfold f_Da_know at h
  obtain ⟨s4, h1, h⟩ := bnd1_e h
  have J4_11 : ∀ (σ4_ : Mem), s4 = σ4_ → Fr [8, 9, 34, 35, 36, 37, 38, 39] [(33, 6), (33, 9)] σ σ4_ → Fr [8, 9, 34, 35, 36, 37, 38, 39] [(33, 6), (33, 9)] σ σ' := by
    intro σ4_ he F
    rw [he] at h
    rcases ite_or h with h | h
    · obtain ⟨σ19, h1, h⟩ := bnd1_e h
      have F := F.c (fm_Da_knowShade h1) (by decide) (by decide)
      cases h
      exact F
    · cases h
      exact F
  replace h := h1
  rcases ite_or h with h | h
  · obtain ⟨σ8, h1, h⟩ := bnd1_e h
    have F := F.c (fm_Da_knowSky h1) (by decide) (by decide)
    exact J4_11 _ (Option.some.inj h).symm F
  · exact J4_11 _ (Option.some.inj h).symm F
set_option maxHeartbeats 4000000 in
theorem fm_Sh_today {N : Nat} {σ : Mem} {σ' : Mem} (h : f_Sh_today N σ = some σ') : Fr [8, 9, 34, 35, 36, 37, 38, 39] [(33, 6), (33, 9)] σ σ' := by
  have F := Fr.rf [8, 9, 34, 35, 36, 37, 38, 39] [(33, 6), (33, 9)] σ
  unfold f_Sh_today at h
  obtain ⟨σ4, h1, h⟩ := bnd1_e h
  have F := F.c (fm_Da_know h1) (by decide) (by decide)
  cases h
  exact F
set_option maxHeartbeats 4000000 in
theorem fm_Sh_isFree {N : Nat} {σ : Mem} {a1 : Int32} {a2 : Int32} {r : Int32} {σ' : Mem} (h : f_Sh_isFree N σ a1 a2 = some (r, σ')) : Fr [8, 9, 34, 35, 36, 37, 38, 39] [(33, 6), (33, 9)] σ σ' := by
  have F := Fr.rf [8, 9, 34, 35, 36, 37, 38, 39] [(33, 6), (33, 9)] σ
  unfold f_Sh_isFree at h
  obtain ⟨r2, h1, h⟩ := bnd1_e h
  rcases ite_or h with h | h
  · cases h
    exact F
  · obtain ⟨σ9, h1, h⟩ := bnd1_e h
    have F := F.c (fm_Sh_today h1) (by decide) (by decide)
    obtain ⟨r18, h1, h⟩ := bnd1_e h
    rcases ite_or h with h | h
    · cases h
      exact F
    · cases h
      exact F
set_option maxHeartbeats 4000000 in
theorem fm_Sh_move {N : Nat} {σ : Mem} {a1 : Int32} {a2 : Int32} {a3 : Int32} {r : Int32} {σ' : Mem} (h : f_Sh_move N σ a1 a2 a3 = some (r, σ')) : Fr [8, 9, 21, 34, 35, 36, 37, 38, 39] [(33, 6), (33, 9)] σ σ' := by
  have F := Fr.rf [8, 9, 21, 34, 35, 36, 37, 38, 39] [(33, 6), (33, 9)] σ
  unfold f_Sh_move at h
  obtain ⟨r6, h1, h⟩ := bnd1_e h
  rcases ite_or h with h | h
  · cases h
    exact F
  · obtain ⟨r15, σ15, h1, h⟩ := bnd2_e h
    have F := F.c (fm_Sh_isFree h1) (by decide) (by decide)
    rcases ite_or h with h | h
    · cases h
      exact F
    · replace h := (grd_e h).2
      obtain ⟨σ37, e_σ37, h⟩ := letv_e h
      have F := F.aI e_σ37 (by decide)
      obtain ⟨σ42, h1, h⟩ := bnd1_e h
      have F := F.c (fm_Da_forgetShade h1) (by decide) (by decide)
      cases h
      exact F
set_option maxHeartbeats 4000000 in
theorem fm_Sh_season {σ : Mem} {a1 : Int32} {r : Int32} {σ' : Mem} (h : f_Sh_season σ a1 = some (r, σ')) : Fr [] [(19, 8), (33, 6), (33, 9)] σ σ' := by
  have F := Fr.rf [] [(19, 8), (33, 6), (33, 9)] σ
  unfold f_Sh_season at h
  rcases ite_or h with h | h
  · cases h
    exact F
  · rcases ite_or h with h | h
    · obtain ⟨σ16, e_σ16, h⟩ := letv_e h
      have F := F.fI e_σ16 (by decide)
      obtain ⟨σ23, h1, h⟩ := bnd1_e h
      have F := F.c (fm_Da_forgetSky h1) (by decide) (by decide)
      cases h
      exact F
    · cases h
      exact F
set_option maxHeartbeats 4000000 in
theorem fm_Sh_sun {N : Nat} {σ : Mem} {a1 : Int32} {a2 : Int32} {r : Int32} {σ' : Mem} (h : f_Sh_sun N σ a1 a2 = some (r, σ')) : Fr [8, 9, 34, 35, 36, 37, 38, 39] [(33, 6), (33, 9)] σ σ' := by
  have F := Fr.rf [8, 9, 34, 35, 36, 37, 38, 39] [(33, 6), (33, 9)] σ
  unfold f_Sh_sun at h
  obtain ⟨r1, h1, h⟩ := bnd1_e h
  rcases ite_or h with h | h
  · cases h
    exact F
  · obtain ⟨σ11, h1, h⟩ := bnd1_e h
    have F := F.c (fm_Sh_today h1) (by decide) (by decide)
    rcases ite_or h with h | h
    · obtain ⟨r50, h1, h⟩ := bnd1_e h
      rcases ite_or h with h | h
      · cases h
        exact F
      · cases h
        exact F
    · rcases ite_or h with h | h
      · obtain ⟨r64, h1, h⟩ := bnd1_e h
        cases h
        exact F
      · rcases ite_or h with h | h
        · obtain ⟨r70, h1, h⟩ := bnd1_e h
          cases h
          exact F
        · rcases ite_or h with h | h
          · obtain ⟨r76, h1, h⟩ := bnd1_e h
            cases h
            exact F
          · cases h
            exact F
set_option maxHeartbeats 4000000 in
theorem fm_Sh_shade {N : Nat} {σ : Mem} {a1 : Int32} {a2 : Int32} {a3 : Int32} {r : Int32} {σ' : Mem} (h : f_Sh_shade N σ a1 a2 a3 = some (r, σ')) : Fr [8, 9, 34, 35, 36, 37, 38, 39] [(33, 6), (33, 9)] σ σ' := by
  have F := Fr.rf [8, 9, 34, 35, 36, 37, 38, 39] [(33, 6), (33, 9)] σ
  unfold f_Sh_shade at h
  obtain ⟨r2, h1, h⟩ := bnd1_e h
  rcases ite_or h with h | h
  · cases h
    exact F
  · obtain ⟨r9, h1, h⟩ := bnd1_e h
    rcases ite_or h with h | h
    · cases h
      exact F
    · obtain ⟨σ18, h1, h⟩ := bnd1_e h
      have F := F.c (fm_Sh_today h1) (by decide) (by decide)
      obtain ⟨r28, h1, h⟩ := bnd1_e h
      cases h
      exact F
set_option maxHeartbeats 4000000 in
theorem fm_La_askSquare {σ : Mem} {a1 : Int32} {a2 : Int32} {σ' : Mem} (h : f_La_askSquare σ a1 a2 = some σ') : Fr [8] [] σ σ' := by
  have F := Fr.rf [8] [] σ
  unfold f_La_askSquare at h
  obtain ⟨σ9, e_σ9, h⟩ := letv_e h
  have F := F.aI e_σ9 (by decide)
  obtain ⟨σ19, e_σ19, h⟩ := letv_e h
  have F := F.aI e_σ19 (by decide)
  obtain ⟨σ26, e_σ26, h⟩ := letv_e h
  have F := F.aI e_σ26 (by decide)
  cases h
  exact F
set_option maxHeartbeats 4000000 in
theorem fm_Da_askSquare {N : Nat} {σ : Mem} {a1 : Int32} {a2 : Int32} {σ' : Mem} (h : f_Da_askSquare N σ a1 a2 = some σ') : Fr [8] [] σ σ' := by
  have F := Fr.rf [8] [] σ
  unfold f_Da_askSquare at h
  obtain ⟨r3, h1, h⟩ := bnd1_e h
  obtain ⟨r6, h1, h⟩ := bnd1_e h
  obtain ⟨σ22, h1, h⟩ := bnd1_e h
  have F := F.c (fm_La_askHour h1) (by decide) (by decide)
  obtain ⟨σ31, h1, h⟩ := bnd1_e h
  have F := F.c (fm_La_askSquare h1) (by decide) (by decide)
  cases h
  exact F
set_option maxHeartbeats 4000000 in
theorem fm_Da_priceOf {N : Nat} {σ : Mem} {a1 : Int32} {a2 : Int32} {r : Int32} {σ' : Mem} (h : f_Da_priceOf N σ a1 a2 = some (r, σ')) : Fr [8, 9] [] σ σ' := by
  have F := Fr.rf [8, 9] [] σ
  unfold f_Da_priceOf at h
  obtain ⟨σ3, h1, h⟩ := bnd1_e h
  have F := F.c (fm_Da_askSquare h1) (by decide) (by decide)
  obtain ⟨r15, σ15, h1, h⟩ := bnd2_e h
  have F := F.c (fm_La_valueOf h1) (by decide) (by decide)
  cases h
  exact F
set_option maxHeartbeats 4000000 in
theorem fm_Sh_price {N : Nat} {σ : Mem} {a1 : Int32} {a2 : Int32} {a3 : Int32} {r : Int32} {σ' : Mem} (h : f_Sh_price N σ a1 a2 a3 = some (r, σ')) : Fr [8, 9, 34, 35, 36, 37, 38, 39] [(33, 6), (33, 9)] σ σ' := by
  have F := Fr.rf [8, 9, 34, 35, 36, 37, 38, 39] [(33, 6), (33, 9)] σ
  unfold f_Sh_price at h
  obtain ⟨r2, h1, h⟩ := bnd1_e h
  rcases ite_or h with h | h
  · cases h
    exact F
  · obtain ⟨r9, h1, h⟩ := bnd1_e h
    rcases ite_or h with h | h
    · cases h
      exact F
    · obtain ⟨σ18, h1, h⟩ := bnd1_e h
      have F := F.c (fm_Sh_today h1) (by decide) (by decide)
      obtain ⟨r28, σ28, h1, h⟩ := bnd2_e h
      have F := F.c (fm_Da_priceOf h1) (by decide) (by decide)
      cases h
      exact F
set_option maxHeartbeats 4000000 in
theorem fmL_Sh_cast_l47 {N : Nat} {a1 : Int32} : ∀ (k : Nat) (x4 : Int32) (x5 : Int32) (σ : Mem) (res : Int32 × Mem), L_Sh_cast_l47 N a1 k x4 x5 σ = some res → Fr [8, 9, 34, 35, 36, 37, 38, 39] [(33, 6), (33, 9)] σ (res.2) := by
  intro k
  induction k with
  | zero => intro x4 x5 σ res h; cases h
  | succ k ih =>
    intro x4 x5 σ res h
    have F := Fr.rf [8, 9, 34, 35, 36, 37, 38, 39] [(33, 6), (33, 9)] σ
    replace h : B_Sh_cast_l47 N a1 (L_Sh_cast_l47 N a1 k) x4 x5 σ = some res := h
    unfold B_Sh_cast_l47 at h
    rcases ite_or h with h | h
    · cases h
      exact F
    · obtain ⟨r60, h1, h⟩ := bnd1_e h
      obtain ⟨v64, e_v64, h⟩ := letv_e h
      obtain ⟨v66, -, h⟩ := letv_e h
      exact F.t (ih _ _ _ _ h)
set_option maxHeartbeats 4000000 in
theorem fm_Sh_cast {N : Nat} {σ : Mem} {a1 : Int32} {a2 : Int32} {r : Int32} {σ' : Mem} (h : f_Sh_cast N σ a1 a2 = some (r, σ')) : Fr [8, 9, 34, 35, 36, 37, 38, 39] [(33, 6), (33, 9)] σ σ' := by
  have F := Fr.rf [8, 9, 34, 35, 36, 37, 38, 39] [(33, 6), (33, 9)] σ
  unfold f_Sh_cast at h
  obtain ⟨r5, h1, h⟩ := bnd1_e h
  rcases ite_or h with h | h
  · cases h
    exact F
  · rcases ite_or h with h | h
    · cases h
      exact F
    · rcases ite_or h with h | h
      · obtain ⟨σ24, h1, h⟩ := bnd1_e h
        have F := F.c (fm_Sh_today h1) (by decide) (by decide)
        rcases ite_or h with h | h
        · exact F.t (fmL_Sh_cast_l47 _ _ _ _ _ h)
        · obtain ⟨r37, h1, h⟩ := bnd1_e h
          cases h
          exact F
      · cases h
        exact F
set_option maxHeartbeats 4000000 in
theorem fm_Sh_led {N : Nat} {σ : Mem} {a1 : Int32} {a2 : Int32} {r : Int64} {σ' : Mem} (h : f_Sh_led N σ a1 a2 = some (r, σ')) : Fr [8, 9, 34, 35, 36, 37, 38, 39] [(33, 6), (33, 9)] σ σ' := by
  have F := Fr.rf [8, 9, 34, 35, 36, 37, 38, 39] [(33, 6), (33, 9)] σ
  unfold f_Sh_led at h
  obtain ⟨r1, h1, h⟩ := bnd1_e h
  rcases ite_or h with h | h
  · cases h
    exact F
  · rcases ite_or h with h | h
    · cases h
      exact F
    · rcases ite_or h with h | h
      · obtain ⟨σ21, h1, h⟩ := bnd1_e h
        have F := F.c (fm_Sh_today h1) (by decide) (by decide)
        obtain ⟨r29, h1, h⟩ := bnd1_e h
        obtain ⟨r32, h1, h⟩ := bnd1_e h
        obtain ⟨r41, h1, h⟩ := bnd1_e h
        cases h
        exact F
      · cases h
        exact F
set_option maxHeartbeats 4000000 in
theorem fm_Sh_longest {N : Nat} {σ : Mem} {a1 : Int32} {a2 : Int32} {a3 : Int32} {r : Int32} {σ' : Mem} (h : f_Sh_longest N σ a1 a2 a3 = some (r, σ')) : Fr [8, 9, 34, 35, 36, 37, 38, 39] [(33, 6), (33, 9)] σ σ' := by
  have F := Fr.rf [8, 9, 34, 35, 36, 37, 38, 39] [(33, 6), (33, 9)] σ
  unfold f_Sh_longest at h
  obtain ⟨r2, h1, h⟩ := bnd1_e h
  rcases ite_or h with h | h
  · cases h
    exact F
  · rcases ite_or h with h | h
    · cases h
      exact F
    · rcases ite_or h with h | h
      · obtain ⟨σ20, h1, h⟩ := bnd1_e h
        have F := F.c (fm_Sh_today h1) (by decide) (by decide)
        obtain ⟨r29, h1, h⟩ := bnd1_e h
        rcases ite_or h with h | h
        · cases h
          exact F
        · rcases ite_or h with h | h
          · cases h
            exact F
          · cases h
            exact F
      · cases h
        exact F
set_option maxHeartbeats 4000000 in
theorem fm_Sh_donkey {N : Nat} {σ : Mem} {a1 : Int32} {r : Int32} {σ' : Mem} (h : f_Sh_donkey N σ a1 = some (r, σ')) : Fr [8, 9, 34, 35, 36, 37, 38, 39] [(33, 6), (33, 9)] σ σ' := by
  have F := Fr.rf [8, 9, 34, 35, 36, 37, 38, 39] [(33, 6), (33, 9)] σ
  unfold f_Sh_donkey at h
  rcases ite_or h with h | h
  · cases h
    exact F
  · rcases ite_or h with h | h
    · obtain ⟨σ12, h1, h⟩ := bnd1_e h
      have F := F.c (fm_Sh_today h1) (by decide) (by decide)
      obtain ⟨x27_, h1, h⟩ := bnd1_e h
      obtain ⟨z27_3, z27_4⟩ := x27_
      replace h := q2_e h
      rcases ite_or h with h | h
      · cases h
        exact F
      · cases h
        exact F
    · cases h
      exact F
set_option maxHeartbeats 4000000 in
theorem fmL_St_reckonHour_l3 {N : Nat} {a2 : Int32} {a3 : Int32} : ∀ (k : Nat) (x4 : Int32) (σ : Mem) (res : Mem), L_St_reckonHour_l3 N a2 a3 k x4 σ = some res → Fr [8, 9, 42] [] σ (res) := by
  intro k
  induction k with
  | zero => intro x4 σ res h; cases h
  | succ k ih =>
    intro x4 σ res h
    have F := Fr.rf [8, 9, 42] [] σ
    replace h : B_St_reckonHour_l3 N a2 a3 (L_St_reckonHour_l3 N a2 a3 k) x4 σ = some res := h
    unfold B_St_reckonHour_l3 at h
    rcases ite_or h with h | h
    · cases h
      exact F
    · obtain ⟨r24, h1, h⟩ := bnd1_e h
      obtain ⟨s27, h1, h⟩ := bnd1_e h
      have J27_58 : ∀ (y27_5 : Int32), s27 = y27_5 → Fr [8, 9, 42] [] σ (res) := by
        intro y27_5 he
        rw [he] at h
        obtain ⟨s62, h1, h⟩ := bnd1_e h
        have J62_85 : ∀ (y62_5 : Int32) (σ62_ : Mem), s62 = (y62_5, σ62_) → Fr [8, 9, 42] [] σ σ62_ → Fr [8, 9, 42] [] σ (res) := by
          intro y62_5 σ62_ he F
          rw [he] at h
          replace h := q2_e h
          replace h := (grd_e h).2
          obtain ⟨σ99, e_σ99, h⟩ := letv_e h
          have F := F.aI e_σ99 (by decide)
          obtain ⟨v100, -, h⟩ := letv_e h
          exact F.t (ih _ _ _ h)
        replace h := h1
        rcases ite_or h with h | h
        · exact J62_85 _ _ (Option.some.inj h).symm F
        · obtain ⟨r78, σ78, h1, h⟩ := bnd2_e h
          have F := F.c (fm_Da_priceOf h1) (by decide) (by decide)
          obtain ⟨v83, e_v83, h⟩ := letv_e h
          exact J62_85 _ _ (Option.some.inj h).symm F
      replace h := h1
      rcases ite_or h with h | h
      · exact J27_58 _ (Option.some.inj h).symm
      · obtain ⟨s31, h1, h⟩ := bnd1_e h
        have J31_56 : ∀ (y31_s0 : Int32), s31 = y31_s0 → Fr [8, 9, 42] [] σ (res) := by
          intro y31_s0 he
          rw [he] at h
          exact J27_58 _ (Option.some.inj h).symm
        replace h := h1
        rcases ite_or h with h | h
        · obtain ⟨r50, h1, h⟩ := bnd1_e h
          obtain ⟨r53, h1, h⟩ := bnd1_e h
          exact J31_56 _ (Option.some.inj h).symm
        · exact J31_56 _ (Option.some.inj h).symm
set_option maxHeartbeats 4000000 in
theorem fm_St_reckonHour {N : Nat} {σ : Mem} {a2 : Int32} {a3 : Int32} {σ' : Mem} (h : f_St_reckonHour N σ a2 a3 = some σ') : Fr [8, 9, 42] [] σ σ' := by
  have F := Fr.rf [8, 9, 42] [] σ
  unfold f_St_reckonHour at h
  exact F.t (fmL_St_reckonHour_l3 _ _ _ _ h)
set_option maxHeartbeats 4000000 in
theorem fmL_St_find_l27 {N : Nat} {a4 : Int32} : ∀ (k : Nat) (x5 : Int32) (σ : Mem) (res : Mem), L_St_find_l27 N a4 k x5 σ = some res → Fr [8, 9, 42, 43] [(41, 2), (41, 3)] σ (res) := by
  intro k
  induction k with
  | zero => intro x5 σ res h; cases h
  | succ k ih =>
    intro x5 σ res h
    have F := Fr.rf [8, 9, 42, 43] [(41, 2), (41, 3)] σ
    replace h : B_St_find_l27 N a4 (L_St_find_l27 N a4 k) x5 σ = some res := h
    unfold B_St_find_l27 at h
    rcases ite_or h with h | h
    · cases h
      exact F
    · obtain ⟨s42, h1, h⟩ := bnd1_e h
      have J42_50 : ∀ (y42_s3 : Int32), s42 = y42_s3 → Fr [8, 9, 42, 43] [(41, 2), (41, 3)] σ (res) := by
        intro y42_s3 he
        rw [he] at h
        obtain ⟨σ50, h1, h⟩ := bnd1_e h
        have F := F.c (fm_St_reckonHour h1) (by decide) (by decide)
        obtain ⟨v53, -, h⟩ := letv_e h
        exact F.t (ih _ _ _ h)
      replace h := h1
      rcases ite_or h with h | h
      · exact J42_50 _ (Option.some.inj h).symm
      · exact J42_50 _ (Option.some.inj h).symm
set_option maxHeartbeats 4000000 in
theorem fmL_St_find_l62 {N : Nat} {a4 : Int32} : ∀ (k : Nat) (x5 : Int32) (σ : Mem) (res : Mem), L_St_find_l62 N a4 k x5 σ = some res → Fr [8, 9, 42, 43] [(41, 2), (41, 3)] σ (res) := by
  intro k
  induction k with
  | zero => intro x5 σ res h; cases h
  | succ k ih =>
    intro x5 σ res h
    have F := Fr.rf [8, 9, 42, 43] [(41, 2), (41, 3)] σ
    replace h : B_St_find_l62 N a4 (L_St_find_l62 N a4 k) x5 σ = some res := h
    unfold B_St_find_l62 at h
    rcases ite_or h with h | h
    · cases h
      exact F
    · replace h := (grd_e h).2
      obtain ⟨s81, h1, h⟩ := bnd1_e h
      have J81_103 : ∀ (σ81_ : Mem), s81 = σ81_ → Fr [8, 9, 42, 43] [(41, 2), (41, 3)] σ σ81_ → Fr [8, 9, 42, 43] [(41, 2), (41, 3)] σ (res) := by
        intro σ81_ he F
        rw [he] at h
        obtain ⟨v103, -, h⟩ := letv_e h
        exact F.t (ih _ _ _ h)
      replace h := h1
      rcases ite_or h with h | h
      · exact J81_103 _ (Option.some.inj h).symm F
      · replace h := (grd_e h).2
        obtain ⟨σ92, e_σ92, h⟩ := letv_e h
        have F := F.fI e_σ92 (by decide)
        obtain ⟨σ102, e_σ102, h⟩ := letv_e h
        have F := F.aI e_σ102 (by decide)
        exact J81_103 _ (Option.some.inj h).symm F
set_option maxHeartbeats 4000000 in
theorem fmL_St_find_l112 {N : Nat} {a4 : Int32} : ∀ (k : Nat) (x5 : Int32) (σ : Mem) (res : Mem), L_St_find_l112 N a4 k x5 σ = some res → Fr [8, 9, 42, 43] [(41, 2), (41, 3)] σ (res) := by
  intro k
  induction k with
  | zero => intro x5 σ res h; cases h
  | succ k ih =>
    intro x5 σ res h
    have F := Fr.rf [8, 9, 42, 43] [(41, 2), (41, 3)] σ
    replace h : B_St_find_l112 N a4 (L_St_find_l112 N a4 k) x5 σ = some res := h
    unfold B_St_find_l112 at h
    rcases ite_or h with h | h
    · cases h
      exact F
    · rcases ite_or h with h | h
      · cases h
        exact F
      · replace h := (grd_e h).2
        obtain ⟨r146, h1, h⟩ := bnd1_e h
        replace h := (grd_e h).2
        obtain ⟨σ149, e_σ149, h⟩ := letv_e h
        have F := F.aI e_σ149 (by decide)
        obtain ⟨v150, -, h⟩ := letv_e h
        exact F.t (ih _ _ _ h)
set_option maxHeartbeats 4000000 in
theorem fm_St_find {N : Nat} {σ : Mem} {a2 : Int32} {a3 : Int32} {r : Int32} {σ' : Mem} (h : f_St_find N σ a2 a3 = some (r, σ')) : Fr [8, 9, 42, 43] [(41, 2), (41, 3)] σ σ' := by
  have F := Fr.rf [8, 9, 42, 43] [(41, 2), (41, 3)] σ
  unfold f_St_find at h
  obtain ⟨σ2, e_σ2, h⟩ := letv_e h
  have F := F.fI e_σ2 (by decide)
  obtain ⟨σ8, e_σ8, h⟩ := letv_e h
  have F := F.fI e_σ8 (by decide)
  obtain ⟨r16, h1, h⟩ := bnd1_e h
  obtain ⟨v25, e_v25, h⟩ := letv_e h
  obtain ⟨σ27_, h1, h⟩ := bnd1_e h
  have F := F.t (fmL_St_find_l27 _ _ _ _ h1)
  have F : Fr [8, 9, 42, 43] [(41, 2), (41, 3)] σ σ27_ := F
  obtain ⟨σ62_, h1, h⟩ := bnd1_e h
  have F := F.t (fmL_St_find_l62 _ _ _ _ h1)
  have F : Fr [8, 9, 42, 43] [(41, 2), (41, 3)] σ σ62_ := F
  obtain ⟨σ112_, h1, h⟩ := bnd1_e h
  have F := F.t (fmL_St_find_l112 _ _ _ _ h1)
  have F : Fr [8, 9, 42, 43] [(41, 2), (41, 3)] σ σ112_ := F
  rcases ite_or h with h | h
  · cases h
    exact F
  · cases h
    exact F
set_option maxHeartbeats 4000000 in
theorem fm_Sh_strip {N : Nat} {σ : Mem} {a1 : Int32} {a2 : Int32} {a3 : Int32} {r : Int32} {σ' : Mem} (h : f_Sh_strip N σ a1 a2 a3 = some (r, σ')) : Fr [8, 9, 34, 35, 36, 37, 38, 39, 42, 43] [(33, 6), (33, 9), (41, 2), (41, 3)] σ σ' := by
  have F := Fr.rf [8, 9, 34, 35, 36, 37, 38, 39, 42, 43] [(33, 6), (33, 9), (41, 2), (41, 3)] σ
  unfold f_Sh_strip at h
  obtain ⟨s2, h1, h⟩ := bnd1_e h
  have J2_26 : ∀ (y2_s0 : Int32), s2 = y2_s0 → Fr [8, 9, 34, 35, 36, 37, 38, 39, 42, 43] [(33, 6), (33, 9), (41, 2), (41, 3)] σ σ' := by
    intro y2_s0 he
    rw [he] at h
    obtain ⟨r32, h1, h⟩ := bnd1_e h
    rcases ite_or h with h | h
    · cases h
      exact F
    · rcases ite_or h with h | h
      · cases h
        exact F
      · obtain ⟨σ51, h1, h⟩ := bnd1_e h
        have F := F.c (fm_Sh_today h1) (by decide) (by decide)
        obtain ⟨r56, σ56, h1, h⟩ := bnd2_e h
        have F := F.c (fm_St_find h1) (by decide) (by decide)
        rcases ite_or h with h | h
        · cases h
          exact F
        · rcases ite_or h with h | h
          · obtain ⟨r74, h1, h⟩ := bnd1_e h
            cases h
            exact F
          · rcases ite_or h with h | h
            · obtain ⟨r88, h1, h⟩ := bnd1_e h
              cases h
              exact F
            · obtain ⟨r99, h1, h⟩ := bnd1_e h
              cases h
              exact F
  replace h := h1
  obtain ⟨s2b, h1, h⟩ := bnd1_e h
  have J2b_21 : s2b = 0 → Fr [8, 9, 34, 35, 36, 37, 38, 39, 42, 43] [(33, 6), (33, 9), (41, 2), (41, 3)] σ σ' := by
    intro he
    rw [he] at h
    replace h := ite_t rfl h
    exact J2_26 _ (Option.some.inj h).symm
  have J2b_25 : s2b = 1 → Fr [8, 9, 34, 35, 36, 37, 38, 39, 42, 43] [(33, 6), (33, 9), (41, 2), (41, 3)] σ σ' := by
    intro he
    rw [he] at h
    replace h := ite_f (by decide) h
    exact J2_26 _ (Option.some.inj h).symm
  replace h := h1
  rcases ite_or h with h | h
  · exact J2b_21 (Option.some.inj h).symm
  · rcases ite_or h with h | h
    · exact J2b_21 (Option.some.inj h).symm
    · rcases ite_or h with h | h
      · exact J2b_25 (Option.some.inj h).symm
      · rcases ite_or h with h | h
        · exact J2b_25 (Option.some.inj h).symm
        · exact J2b_21 (Option.some.inj h).symm
set_option maxHeartbeats 4000000 in
theorem fm_Wa_begin {N : Nat} {σ : Mem} {a1 : Int32} {σ' : Mem} (h : f_Wa_begin N σ a1 = some σ') : Fr [45, 46] [] σ σ' := by
  have F := Fr.rf [45, 46] [] σ
  unfold f_Wa_begin at h
  obtain ⟨w1, hw_w1, h⟩ := bnd1_e h
  obtain ⟨σ7, h1, h⟩ := bnd1_e h
  have F := F.c (fm_JA_fill_53178 h1) (drf_s hw_w1 (by decide)) (by decide)
  obtain ⟨w11, hw_w11, h⟩ := bnd1_e h
  replace h := (grd_e h).2
  obtain ⟨σ16, e_σ16, h⟩ := letv_e h
  have F := F.aI e_σ16 (drf_m hw_w11 (by decide))
  cases h
  exact F
set_option maxHeartbeats 4000000 in
theorem fmL_Wa_step_l9 {N : Nat} {a2 : Int32} {a3 : Int32} : ∀ (k : Nat) (x4 : Int32) (σ : Mem) (res : Mem), L_Wa_step_l9 N a2 a3 k x4 σ = some res → Fr [45, 46] [(44, 0), (44, 1)] σ (res) := by
  intro k
  induction k with
  | zero => intro x4 σ res h; cases h
  | succ k ih =>
    intro x4 σ res h
    have F := Fr.rf [45, 46] [(44, 0), (44, 1)] σ
    replace h : B_Wa_step_l9 N a2 a3 (L_Wa_step_l9 N a2 a3 k) x4 σ = some res := h
    unfold B_Wa_step_l9 at h
    rcases ite_or h with h | h
    · obtain ⟨w80, hw_w80, h⟩ := bnd1_e h
      obtain ⟨w87, hw_w87, h⟩ := bnd1_e h
      obtain ⟨σ90, e_σ90, h⟩ := letv_e h
      have F := F.fR e_σ90 (by decide)
      obtain ⟨σ96, e_σ96, h⟩ := letv_e h
      have F := F.fR e_σ96 (by decide)
      cases h
      exact F
    · obtain ⟨r25, h1, h⟩ := bnd1_e h
      obtain ⟨s28, h1, h⟩ := bnd1_e h
      have J28_64 : ∀ (y28_5 : Int32), s28 = y28_5 → Fr [45, 46] [(44, 0), (44, 1)] σ (res) := by
        intro y28_5 he
        rw [he] at h
        obtain ⟨w65, hw_w65, h⟩ := bnd1_e h
        replace h := (grd_e h).2
        obtain ⟨σ72, e_σ72, h⟩ := letv_e h
        have F := F.aI e_σ72 (drf_m hw_w65 (by decide))
        obtain ⟨v73, -, h⟩ := letv_e h
        exact F.t (ih _ _ _ h)
      replace h := h1
      rcases ite_or h with h | h
      · exact J28_64 _ (Option.some.inj h).symm
      · obtain ⟨r34, h1, h⟩ := bnd1_e h
        rcases ite_or h with h | h
        · exact J28_64 _ (Option.some.inj h).symm
        · rcases ite_or h with h | h
          · exact J28_64 _ (Option.some.inj h).symm
          · obtain ⟨r55, h1, h⟩ := bnd1_e h
            rcases ite_or h with h | h
            · obtain ⟨v61, -, h⟩ := letv_e h
              exact J28_64 _ (Option.some.inj h).symm
            · exact J28_64 _ (Option.some.inj h).symm
set_option maxHeartbeats 4000000 in
theorem fm_Wa_step {N : Nat} {σ : Mem} {a2 : Int32} {σ' : Mem} (h : f_Wa_step N σ a2 = some σ') : Fr [45, 46] [(44, 0), (44, 1)] σ σ' := by
  have F := Fr.rf [45, 46] [(44, 0), (44, 1)] σ
  unfold f_Wa_step at h
  obtain ⟨r2, h1, h⟩ := bnd1_e h
  exact F.t (fmL_Wa_step_l9 _ _ _ _ h)
set_option maxHeartbeats 4000000 in
theorem fmL_Wa_leastSun_l20 {N : Nat} {a3 : Int32} {a4 : Int32} : ∀ (k : Nat) (x5 : Int32) (x6 : Int32) (σ : Mem) (res : Int32 × Mem), L_Wa_leastSun_l20 N a3 a4 k x5 x6 σ = some res → Fr [45, 46] [(44, 0), (44, 1)] σ (res.2) := by
  intro k
  induction k with
  | zero => intro x5 x6 σ res h; cases h
  | succ k ih =>
    intro x5 x6 σ res h
    have F := Fr.rf [45, 46] [(44, 0), (44, 1)] σ
    replace h : B_Wa_leastSun_l20 N a3 a4 (L_Wa_leastSun_l20 N a3 a4 k) x5 x6 σ = some res := h
    unfold B_Wa_leastSun_l20 at h
    rcases ite_or h with h | h
    · cases h
      exact F
    · obtain ⟨σ40, h1, h⟩ := bnd1_e h
      have F := F.c (fm_Wa_step h1) (by decide) (by decide)
      obtain ⟨w46, hw_w46, h⟩ := bnd1_e h
      replace h := (grd_e h).2
      obtain ⟨r60, h1, h⟩ := bnd1_e h
      obtain ⟨v65, -, h⟩ := letv_e h
      exact F.t (ih _ _ _ _ h)
set_option maxHeartbeats 4000000 in
theorem fm_Wa_leastSun {N : Nat} {σ : Mem} {a2 : Int32} {a3 : Int32} {a4 : Int32} {r : Int32} {σ' : Mem} (h : f_Wa_leastSun N σ a2 a3 a4 = some (r, σ')) : Fr [45, 46] [(44, 0), (44, 1)] σ σ' := by
  have F := Fr.rf [45, 46] [(44, 0), (44, 1)] σ
  unfold f_Wa_leastSun at h
  obtain ⟨σ2, h1, h⟩ := bnd1_e h
  have F := F.c (fm_Wa_begin h1) (by decide) (by decide)
  obtain ⟨w6, hw_w6, h⟩ := bnd1_e h
  replace h := (grd_e h).2
  obtain ⟨v15, e_v15, h⟩ := letv_e h
  obtain ⟨x20_, h1, h⟩ := bnd1_e h
  have F := F.t (fmL_Wa_leastSun_l20 _ _ _ _ _ h1)
  obtain ⟨z20_5, σ20_⟩ := x20_
  replace h := q2_e h
  have F : Fr [45, 46] [(44, 0), (44, 1)] σ σ20_ := F
  rcases ite_or h with h | h
  · cases h
    exact F
  · cases h
    exact F
set_option maxHeartbeats 4000000 in
theorem fmL_Wa_soonestInShade_l8 {N : Nat} {a3 : Int32} {a4 : Int32} : ∀ (k : Nat) (x5 : Int32) (σ : Mem) (res : (Int32 × Mem) ⊕ (Mem)), L_Wa_soonestInShade_l8 N a3 a4 k x5 σ = some res → Fr [45, 46] [(44, 0), (44, 1)] σ (sm res (fun r => r.2) (fun e => e)) := by
  intro k
  induction k with
  | zero => intro x5 σ res h; cases h
  | succ k ih =>
    intro x5 σ res h
    have F := Fr.rf [45, 46] [(44, 0), (44, 1)] σ
    replace h : B_Wa_soonestInShade_l8 N a3 a4 (L_Wa_soonestInShade_l8 N a3 a4 k) x5 σ = some res := h
    unfold B_Wa_soonestInShade_l8 at h
    rcases ite_or h with h | h
    · cases h
      exact F
    · obtain ⟨w16, hw_w16, h⟩ := bnd1_e h
      replace h := (grd_e h).2
      rcases ite_or h with h | h
      · cases h
        exact F
      · obtain ⟨σ40, h1, h⟩ := bnd1_e h
        have F := F.c (fm_Wa_step h1) (by decide) (by decide)
        obtain ⟨v43, -, h⟩ := letv_e h
        exact F.t (ih _ _ _ h)
set_option maxHeartbeats 4000000 in
theorem fm_Wa_soonestInShade {N : Nat} {σ : Mem} {a2 : Int32} {a3 : Int32} {a4 : Int32} {r : Int32} {σ' : Mem} (h : f_Wa_soonestInShade N σ a2 a3 a4 = some (r, σ')) : Fr [45, 46] [(44, 0), (44, 1)] σ σ' := by
  have F := Fr.rf [45, 46] [(44, 0), (44, 1)] σ
  unfold f_Wa_soonestInShade at h
  obtain ⟨σ2, h1, h⟩ := bnd1_e h
  have F := F.c (fm_Wa_begin h1) (by decide) (by decide)
  obtain ⟨x8_, h1, h⟩ := bnd1_e h
  have F := F.t (fmL_Wa_soonestInShade_l8 _ _ _ _ h1)
  rcases x8_ with r8_ | σ8_
  · replace h := sm_l h
    cases h
    exact F
  · replace h := sm_r h
    have F : Fr [45, 46] [(44, 0), (44, 1)] σ σ8_ := F
    obtain ⟨w50, hw_w50, h⟩ := bnd1_e h
    replace h := (grd_e h).2
    rcases ite_or h with h | h
    · cases h
      exact F
    · cases h
      exact F
set_option maxHeartbeats 4000000 in
theorem fm_Sh_walk {N : Nat} {σ : Mem} {a1 : Int32} {a2 : Int32} {a3 : Int32} {a4 : Int32} {r : Int32} {σ' : Mem} (h : f_Sh_walk N σ a1 a2 a3 a4 = some (r, σ')) : Fr [8, 9, 34, 35, 36, 37, 38, 39, 45, 46] [(33, 6), (33, 9), (44, 0), (44, 1)] σ σ' := by
  have F := Fr.rf [8, 9, 34, 35, 36, 37, 38, 39, 45, 46] [(33, 6), (33, 9), (44, 0), (44, 1)] σ
  unfold f_Sh_walk at h
  obtain ⟨σ1, h1, h⟩ := bnd1_e h
  have F := F.c (fm_Sh_today h1) (by decide) (by decide)
  obtain ⟨r7, h1, h⟩ := bnd1_e h
  rcases ite_or h with h | h
  · cases h
    exact F
  · rcases ite_or h with h | h
    · cases h
      exact F
    · rcases ite_or h with h | h
      · cases h
        exact F
      · obtain ⟨r27, h1, h⟩ := bnd1_e h
        rcases ite_or h with h | h
        · cases h
          exact F
        · obtain ⟨r36, h1, h⟩ := bnd1_e h
          rcases ite_or h with h | h
          · cases h
            exact F
          · rcases ite_or h with h | h
            · obtain ⟨r58, σ58, h1, h⟩ := bnd2_e h
              have F := F.c (fm_Wa_soonestInShade h1) (by decide) (by decide)
              cases h
              exact F
            · obtain ⟨r71, σ71, h1, h⟩ := bnd2_e h
              have F := F.c (fm_Wa_leastSun h1) (by decide) (by decide)
              rcases ite_or h with h | h
              · rcases ite_or h with h | h
                · obtain ⟨r96, h1, h⟩ := bnd1_e h
                  cases h
                  exact F
                · obtain ⟨r108, h1, h⟩ := bnd1_e h
                  cases h
                  exact F
              · cases h
                exact F
set_option maxHeartbeats 4000000 in
theorem fm_Ma_tell {σ : Mem} {a1 : Int32} {a2 : Int32} {σ' : Mem} (h : f_Ma_tell σ a1 a2 = some σ') : Fr [48] [(47, 1)] σ σ' := by
  have F := Fr.rf [48] [(47, 1)] σ
  unfold f_Ma_tell at h
  obtain ⟨r2, h1, h⟩ := bnd1_e h
  rcases ite_or h with h | h
  · cases h
    exact F
  · replace h := (grd_e h).2
    obtain ⟨σ14, e_σ14, h⟩ := letv_e h
    have F := F.aI e_σ14 (by decide)
    obtain ⟨σ24, e_σ24, h⟩ := letv_e h
    have F := F.fI e_σ24 (by decide)
    cases h
    exact F
set_option maxHeartbeats 4000000 in
theorem fm_Sh_buyer {σ : Mem} {a1 : Int32} {a2 : Int32} {a3 : Int32} {r : Int32} {σ' : Mem} (h : f_Sh_buyer σ a1 a2 a3 = some (r, σ')) : Fr [48] [(47, 1)] σ σ' := by
  have F := Fr.rf [48] [(47, 1)] σ
  unfold f_Sh_buyer at h
  obtain ⟨r5, h1, h⟩ := bnd1_e h
  rcases ite_or h with h | h
  · cases h
    exact F
  · obtain ⟨r13, h1, h⟩ := bnd1_e h
    rcases ite_or h with h | h
    · cases h
      exact F
    · obtain ⟨σ32, h1, h⟩ := bnd1_e h
      have F := F.c (fm_Ma_tell h1) (by decide) (by decide)
      cases h
      exact F
set_option maxHeartbeats 4000000 in
theorem fm_La_askBuyer {σ : Mem} {a1 : Int32} {a2 : Int32} {σ' : Mem} (h : f_La_askBuyer σ a1 a2 = some σ') : Fr [8] [] σ σ' := by
  have F := Fr.rf [8] [] σ
  unfold f_La_askBuyer at h
  obtain ⟨σ6, e_σ6, h⟩ := letv_e h
  have F := F.aI e_σ6 (by decide)
  obtain ⟨σ14, e_σ14, h⟩ := letv_e h
  have F := F.aI e_σ14 (by decide)
  cases h
  exact F
set_option maxHeartbeats 4000000 in
theorem fm_Da_worthOf {N : Nat} {σ : Mem} {a1 : Int32} {a2 : Int32} {a3 : Int32} {a4 : Int32} {r : Int32} {σ' : Mem} (h : f_Da_worthOf N σ a1 a2 a3 a4 = some (r, σ')) : Fr [8, 9] [] σ σ' := by
  have F := Fr.rf [8, 9] [] σ
  unfold f_Da_worthOf at h
  obtain ⟨σ3, h1, h⟩ := bnd1_e h
  have F := F.c (fm_Da_askSquare h1) (by decide) (by decide)
  obtain ⟨σ13, h1, h⟩ := bnd1_e h
  have F := F.c (fm_La_askBuyer h1) (by decide) (by decide)
  obtain ⟨r26, σ26, h1, h⟩ := bnd2_e h
  have F := F.c (fm_La_valueOf h1) (by decide) (by decide)
  cases h
  exact F
set_option maxHeartbeats 4000000 in
theorem fm_Ma_worthOf {N : Nat} {σ : Mem} {a2 : Int32} {a3 : Int32} {a4 : Int32} {r : Int32} {σ' : Mem} (h : f_Ma_worthOf N σ a2 a3 a4 = some (r, σ')) : Fr [8, 9] [] σ σ' := by
  have F := Fr.rf [8, 9] [] σ
  unfold f_Ma_worthOf at h
  obtain ⟨r2, h1, h⟩ := bnd1_e h
  rcases ite_or h with h | h
  · cases h
    exact F
  · replace h := (grd_e h).2
    obtain ⟨r24, h1, h⟩ := bnd1_e h
    replace h := (grd_e h).2
    obtain ⟨r43, h1, h⟩ := bnd1_e h
    obtain ⟨r58, σ58, h1, h⟩ := bnd2_e h
    have F := F.c (fm_Da_worthOf h1) (by decide) (by decide)
    cases h
    exact F
set_option maxHeartbeats 4000000 in
theorem fm_Sh_worth {N : Nat} {σ : Mem} {a1 : Int32} {a2 : Int32} {a3 : Int32} {a4 : Int32} {r : Int32} {σ' : Mem} (h : f_Sh_worth N σ a1 a2 a3 a4 = some (r, σ')) : Fr [8, 9, 34, 35, 36, 37, 38, 39] [(33, 6), (33, 9)] σ σ' := by
  have F := Fr.rf [8, 9, 34, 35, 36, 37, 38, 39] [(33, 6), (33, 9)] σ
  unfold f_Sh_worth at h
  obtain ⟨r5, h1, h⟩ := bnd1_e h
  rcases ite_or h with h | h
  · cases h
    exact F
  · obtain ⟨r13, h1, h⟩ := bnd1_e h
    rcases ite_or h with h | h
    · cases h
      exact F
    · obtain ⟨r21, h1, h⟩ := bnd1_e h
      rcases ite_or h with h | h
      · cases h
        exact F
      · obtain ⟨σ34, h1, h⟩ := bnd1_e h
        have F := F.c (fm_Sh_today h1) (by decide) (by decide)
        obtain ⟨r46, σ46, h1, h⟩ := bnd2_e h
        have F := F.c (fm_Ma_worthOf h1) (by decide) (by decide)
        cases h
        exact F
set_option maxHeartbeats 4000000 in
theorem fmL_Ma_want_l80 {N : Nat} {a1 : Int32} {a2 : Int32} {a3 : Int32} {a4 : Int32} : ∀ (k : Nat) (x6 : Int32) (σ : Mem) (res : Mem), L_Ma_want_l80 N a1 a2 a3 a4 k x6 σ = some res → Fr [49, 50, 51] [] σ (res) := by
  intro k
  induction k with
  | zero => intro x6 σ res h; cases h
  | succ k ih =>
    intro x6 σ res h
    have F := Fr.rf [49, 50, 51] [] σ
    replace h : B_Ma_want_l80 N a1 a2 a3 a4 (L_Ma_want_l80 N a1 a2 a3 a4 k) x6 σ = some res := h
    unfold B_Ma_want_l80 at h
    rcases ite_or h with h | h
    · cases h
      exact F
    · replace h := (grd_e h).2
      replace h := (grd_e h).2
      obtain ⟨σ105, e_σ105, h⟩ := letv_e h
      have F := F.aI e_σ105 (by decide)
      replace h := (grd_e h).2
      replace h := (grd_e h).2
      obtain ⟨σ121, e_σ121, h⟩ := letv_e h
      have F := F.aI e_σ121 (by decide)
      obtain ⟨v122, -, h⟩ := letv_e h
      exact F.t (ih _ _ _ h)
set_option maxHeartbeats 4000000 in
theorem fm_Ma_want {N : Nat} {σ : Mem} {a1 : Int32} {a2 : Int32} {a3 : Int32} {σ' : Mem} (h : f_Ma_want N σ a1 a2 a3 = some σ') : Fr [49, 50, 51] [] σ σ' := by
  have F := Fr.rf [49, 50, 51] [] σ
  unfold f_Ma_want at h
  obtain ⟨v4, e_v4, h⟩ := letv_e h
  replace h := (grd_e h).2
  rcases ite_or h with h | h
  · obtain ⟨v25, e_v25, h⟩ := letv_e h
    obtain ⟨z27_5, h1, h⟩ := bnd1_e h
    replace h := (grd_e h).2
    rcases ite_or h with h | h
    · obtain ⟨σ80_, h1, h⟩ := bnd1_e h
      have F := F.t (fmL_Ma_want_l80 _ _ _ _ h1)
      have F : Fr [49, 50, 51] [] σ σ80_ := F
      replace h := (grd_e h).2
      replace h := (grd_e h).2
      obtain ⟨σ137, e_σ137, h⟩ := letv_e h
      have F := F.aI e_σ137 (by decide)
      replace h := (grd_e h).2
      replace h := (grd_e h).2
      obtain ⟨σ152, e_σ152, h⟩ := letv_e h
      have F := F.aI e_σ152 (by decide)
      replace h := (grd_e h).2
      replace h := (grd_e h).2
      obtain ⟨σ167, e_σ167, h⟩ := letv_e h
      have F := F.aI e_σ167 (by decide)
      replace h := (grd_e h).2
      replace h := (grd_e h).2
      obtain ⟨σ177, e_σ177, h⟩ := letv_e h
      have F := F.aI e_σ177 (by decide)
      cases h
      exact F
    · cases h
      exact F
  · replace h := (grd_e h).2
    replace h := (grd_e h).2
    obtain ⟨σ152, e_σ152, h⟩ := letv_e h
    have F := F.aI e_σ152 (by decide)
    replace h := (grd_e h).2
    replace h := (grd_e h).2
    obtain ⟨σ167, e_σ167, h⟩ := letv_e h
    have F := F.aI e_σ167 (by decide)
    replace h := (grd_e h).2
    replace h := (grd_e h).2
    obtain ⟨σ177, e_σ177, h⟩ := letv_e h
    have F := F.aI e_σ177 (by decide)
    cases h
    exact F
set_option maxHeartbeats 4000000 in
theorem fmL_Ma_findWanted_l3 {N : Nat} {a2 : Int32} {a3 : Int32} : ∀ (k : Nat) (x4 : Int32) (σ : Mem) (res : Mem), L_Ma_findWanted_l3 N a2 a3 k x4 σ = some res → Fr [8, 9, 49, 50, 51] [] σ (res) := by
  intro k
  induction k with
  | zero => intro x4 σ res h; cases h
  | succ k ih =>
    intro x4 σ res h
    have F := Fr.rf [8, 9, 49, 50, 51] [] σ
    replace h : B_Ma_findWanted_l3 N a2 a3 (L_Ma_findWanted_l3 N a2 a3 k) x4 σ = some res := h
    unfold B_Ma_findWanted_l3 at h
    rcases ite_or h with h | h
    · cases h
      exact F
    · obtain ⟨r15, h1, h⟩ := bnd1_e h
      obtain ⟨s18, h1, h⟩ := bnd1_e h
      have J18_37 : ∀ (σ18_ : Mem), s18 = σ18_ → Fr [8, 9, 49, 50, 51] [] σ σ18_ → Fr [8, 9, 49, 50, 51] [] σ (res) := by
        intro σ18_ he F
        rw [he] at h
        obtain ⟨v37, -, h⟩ := letv_e h
        exact F.t (ih _ _ _ h)
      replace h := h1
      rcases ite_or h with h | h
      · exact J18_37 _ (Option.some.inj h).symm F
      · obtain ⟨r31, σ31, h1, h⟩ := bnd2_e h
        have F := F.c (fm_Ma_worthOf h1) (by decide) (by decide)
        obtain ⟨σ34, h1, h⟩ := bnd1_e h
        have F := F.c (fm_Ma_want h1) (by decide) (by decide)
        exact J18_37 _ (Option.some.inj h).symm F
set_option maxHeartbeats 4000000 in
theorem fm_Ma_findWanted {N : Nat} {σ : Mem} {a2 : Int32} {a3 : Int32} {σ' : Mem} (h : f_Ma_findWanted N σ a2 a3 = some σ') : Fr [8, 9, 49, 50, 51] [] σ σ' := by
  have F := Fr.rf [8, 9, 49, 50, 51] [] σ
  unfold f_Ma_findWanted at h
  exact F.t (fmL_Ma_findWanted_l3 _ _ _ _ h)
set_option maxHeartbeats 4000000 in
theorem fmL_JA_fill_d0a16_l6 {N : Nat} {g0 n0 : Nat} {a1 : Int64} {a4 : Int32} : ∀ (k : Nat) (x3 : Int32) (σ : Mem) (res : Mem), L_JA_fill_d0a16_l6 N g0 n0 a1 a4 k x3 σ = some res → Fr [g0] [] σ (res) := by
  intro k
  induction k with
  | zero => intro x3 σ res h; cases h
  | succ k ih =>
    intro x3 σ res h
    have F := Fr.rf [g0] [] σ
    replace h : B_JA_fill_d0a16_l6 N g0 n0 a1 a4 (L_JA_fill_d0a16_l6 N g0 n0 a1 a4 k) x3 σ = some res := h
    unfold B_JA_fill_d0a16_l6 at h
    rcases ite_or h with h | h
    · cases h
      exact F
    · replace h := (grd_e h).2
      obtain ⟨σ15, e_σ15, h⟩ := letv_e h
      have F := F.aL e_σ15 List.mem_cons_self
      obtain ⟨v16, -, h⟩ := letv_e h
      exact F.t (ih _ _ _ h)
set_option maxHeartbeats 4000000 in
theorem fm_JA_fill_d0a16 {N : Nat} {σ : Mem} {g0 : Nat} {n0 : Nat} {a1 : Int64} {σ' : Mem} (h : f_JA_fill_d0a16 N σ g0 n0 a1 = some σ') : Fr [g0] [] σ σ' := by
  have F := Fr.rf [g0] [] σ
  unfold f_JA_fill_d0a16 at h
  obtain ⟨v4, e_v4, h⟩ := letv_e h
  exact F.t (fmL_JA_fill_d0a16_l6 _ _ _ _ h)
set_option maxHeartbeats 4000000 in
theorem fmL_Ma_offersFor_l4 {N : Nat} {a1 : Int32} : ∀ (k : Nat) (x2 : Int32) (x3 : Int32) (σ : Mem) (res : Int32 × Mem), L_Ma_offersFor_l4 N a1 k x2 x3 σ = some res → Fr [52, 53] [] σ (res.2) := by
  intro k
  induction k with
  | zero => intro x2 x3 σ res h; cases h
  | succ k ih =>
    intro x2 x3 σ res h
    have F := Fr.rf [52, 53] [] σ
    replace h : B_Ma_offersFor_l4 N a1 (L_Ma_offersFor_l4 N a1 k) x2 x3 σ = some res := h
    unfold B_Ma_offersFor_l4 at h
    rcases ite_or h with h | h
    · replace h := (grd_e h).2
      cases h
      exact F
    · replace h := (grd_e h).2
      obtain ⟨v16, e_v16, h⟩ := letv_e h
      replace h := (grd_e h).2
      obtain ⟨σ26, e_σ26, h⟩ := letv_e h
      have F := F.aL e_σ26 (by decide)
      replace h := (grd_e h).2
      obtain ⟨s35, h1, h⟩ := bnd1_e h
      have J35_102 : ∀ (y35_2 : Int32) (σ35_ : Mem), s35 = (y35_2, σ35_) → Fr [52, 53] [] σ σ35_ → Fr [52, 53] [] σ (res.2) := by
        intro y35_2 σ35_ he F
        rw [he] at h
        replace h := q2_e h
        obtain ⟨v102, -, h⟩ := letv_e h
        exact F.t (ih _ _ _ _ h)
      replace h := h1
      rcases ite_or h with h | h
      · exact J35_102 _ _ (Option.some.inj h).symm F
      · replace h := (grd_e h).2
        rcases ite_or h with h | h
        · replace h := (grd_e h).2
          replace h := (grd_e h).2
          obtain ⟨σ89, e_σ89, h⟩ := letv_e h
          have F := F.aL e_σ89 (by decide)
          replace h := (grd_e h).2
          replace h := (grd_e h).2
          obtain ⟨σ99, e_σ99, h⟩ := letv_e h
          have F := F.aI e_σ99 (by decide)
          exact J35_102 _ _ (Option.some.inj h).symm F
        · exact J35_102 _ _ (Option.some.inj h).symm F
set_option maxHeartbeats 4000000 in
theorem fm_Ma_offersFor {N : Nat} {σ : Mem} {a1 : Int32} {r : Int32} {σ' : Mem} (h : f_Ma_offersFor N σ a1 = some (r, σ')) : Fr [52, 53] [] σ σ' := by
  have F := Fr.rf [52, 53] [] σ
  unfold f_Ma_offersFor at h
  exact F.t (fmL_Ma_offersFor_l4 _ _ _ _ _ h)
set_option maxHeartbeats 4000000 in
theorem fmL_Ma_takeOffersFor_l2 {N : Nat} {a1 : Int32} : ∀ (k : Nat) (x2 : Int32) (σ : Mem) (res : Mem), L_Ma_takeOffersFor_l2 N a1 k x2 σ = some res → Fr [54] [] σ (res) := by
  intro k
  induction k with
  | zero => intro x2 σ res h; cases h
  | succ k ih =>
    intro x2 σ res h
    have F := Fr.rf [54] [] σ
    replace h : B_Ma_takeOffersFor_l2 N a1 (L_Ma_takeOffersFor_l2 N a1 k) x2 σ = some res := h
    unfold B_Ma_takeOffersFor_l2 at h
    rcases ite_or h with h | h
    · cases h
      exact F
    · obtain ⟨s14, h1, h⟩ := bnd1_e h
      have J14_70 : ∀ (σ14_ : Mem), s14 = σ14_ → Fr [54] [] σ σ14_ → Fr [54] [] σ (res) := by
        intro σ14_ he F
        rw [he] at h
        obtain ⟨v70, -, h⟩ := letv_e h
        exact F.t (ih _ _ _ h)
      replace h := h1
      rcases ite_or h with h | h
      · replace h := (grd_e h).2
        rcases ite_or h with h | h
        · exact J14_70 _ (Option.some.inj h).symm F
        · replace h := (grd_e h).2
          obtain ⟨v40, e_v40, h⟩ := letv_e h
          rcases ite_or h with h | h
          · exact J14_70 _ (Option.some.inj h).symm F
          · replace h := (grd_e h).2
            replace h := (grd_e h).2
            obtain ⟨r66, h1, h⟩ := bnd1_e h
            replace h := (grd_e h).2
            obtain ⟨σ69, e_σ69, h⟩ := letv_e h
            have F := F.aL e_σ69 (by decide)
            exact J14_70 _ (Option.some.inj h).symm F
      · exact J14_70 _ (Option.some.inj h).symm F
set_option maxHeartbeats 4000000 in
theorem fm_Ma_takeOffersFor {N : Nat} {σ : Mem} {a1 : Int32} {σ' : Mem} (h : f_Ma_takeOffersFor N σ a1 = some σ') : Fr [54] [] σ σ' := by
  have F := Fr.rf [54] [] σ
  unfold f_Ma_takeOffersFor at h
  exact F.t (fmL_Ma_takeOffersFor_l2 _ _ _ _ h)
set_option maxHeartbeats 4000000 in
theorem fmL_Ma_takeOffers_l4 {N : Nat} : ∀ (k : Nat) (x1 : Int32) (σ : Mem) (res : Mem), L_Ma_takeOffers_l4 N k x1 σ = some res → Fr [54] [] σ (res) := by
  intro k
  induction k with
  | zero => intro x1 σ res h; cases h
  | succ k ih =>
    intro x1 σ res h
    have F := Fr.rf [54] [] σ
    replace h : B_Ma_takeOffers_l4 N (L_Ma_takeOffers_l4 N k) x1 σ = some res := h
    unfold B_Ma_takeOffers_l4 at h
    rcases ite_or h with h | h
    · cases h
      exact F
    · obtain ⟨s16, h1, h⟩ := bnd1_e h
      have J16_24 : ∀ (σ16_ : Mem), s16 = σ16_ → Fr [54] [] σ σ16_ → Fr [54] [] σ (res) := by
        intro σ16_ he F
        rw [he] at h
        obtain ⟨v24, -, h⟩ := letv_e h
        exact F.t (ih _ _ _ h)
      replace h := h1
      rcases ite_or h with h | h
      · obtain ⟨σ21, h1, h⟩ := bnd1_e h
        have F := F.c (fm_Ma_takeOffersFor h1) (by decide) (by decide)
        exact J16_24 _ (Option.some.inj h).symm F
      · exact J16_24 _ (Option.some.inj h).symm F
set_option maxHeartbeats 4000000 in
theorem fm_Ma_takeOffers {N : Nat} {σ : Mem} {σ' : Mem} (h : f_Ma_takeOffers N σ = some σ') : Fr [54] [] σ σ' := by
  have F := Fr.rf [54] [] σ
  unfold f_Ma_takeOffers at h
  exact F.t (fmL_Ma_takeOffers_l4 _ _ _ _ h)
set_option maxHeartbeats 4000000 in
theorem fmL_Ma_sell_l8 {N : Nat} {a2 : Int32} {a3 : Int32} : ∀ (k : Nat) (x4 : Int32) (σ : Mem) (res : Mem), L_Ma_sell_l8 N a2 a3 k x4 σ = some res → Fr [8, 9, 49, 50, 51, 52, 53, 54] [(47, 9), (47, 10)] σ (res) := by
  intro k
  induction k with
  | zero => intro x4 σ res h; cases h
  | succ k ih =>
    intro x4 σ res h
    have F := Fr.rf [8, 9, 49, 50, 51, 52, 53, 54] [(47, 9), (47, 10)] σ
    replace h : B_Ma_sell_l8 N a2 a3 (L_Ma_sell_l8 N a2 a3 k) x4 σ = some res := h
    unfold B_Ma_sell_l8 at h
    rcases ite_or h with h | h
    · cases h
      exact F
    · replace h := (grd_e h).2
      obtain ⟨σ22, e_σ22, h⟩ := letv_e h
      have F := F.aI e_σ22 (by decide)
      replace h := (grd_e h).2
      obtain ⟨σ30, e_σ30, h⟩ := letv_e h
      have F := F.aI e_σ30 (by decide)
      obtain ⟨s38, h1, h⟩ := bnd1_e h
      have J38_49 : ∀ (σ38_ : Mem), s38 = σ38_ → Fr [8, 9, 49, 50, 51, 52, 53, 54] [(47, 9), (47, 10)] σ σ38_ → Fr [8, 9, 49, 50, 51, 52, 53, 54] [(47, 9), (47, 10)] σ (res) := by
        intro σ38_ he F
        rw [he] at h
        obtain ⟨v49, -, h⟩ := letv_e h
        exact F.t (ih _ _ _ h)
      replace h := h1
      rcases ite_or h with h | h
      · obtain ⟨σ46, h1, h⟩ := bnd1_e h
        have F := F.c (fm_Ma_findWanted h1) (by decide) (by decide)
        exact J38_49 _ (Option.some.inj h).symm F
      · exact J38_49 _ (Option.some.inj h).symm F
set_option maxHeartbeats 4000000 in
theorem fmL_Ma_sell_l75 {N : Nat} {a3 : Int32} : ∀ (k : Nat) (x4 : Int32) (σ : Mem) (res : Mem), L_Ma_sell_l75 N a3 k x4 σ = some res → Fr [8, 9, 49, 50, 51, 52, 53, 54] [(47, 9), (47, 10)] σ (res) := by
  intro k
  induction k with
  | zero => intro x4 σ res h; cases h
  | succ k ih =>
    intro x4 σ res h
    have F := Fr.rf [8, 9, 49, 50, 51, 52, 53, 54] [(47, 9), (47, 10)] σ
    replace h : B_Ma_sell_l75 N a3 (L_Ma_sell_l75 N a3 k) x4 σ = some res := h
    unfold B_Ma_sell_l75 at h
    rcases ite_or h with h | h
    · obtain ⟨r105, h1, h⟩ := bnd1_e h
      obtain ⟨σ108, e_σ108, h⟩ := letv_e h
      have F := F.fL e_σ108 (by decide)
      cases h
      exact F
    · obtain ⟨r86, σ86, h1, h⟩ := bnd2_e h
      have F := F.c (fm_Ma_offersFor h1) (by decide) (by decide)
      obtain ⟨s89, h1, h⟩ := bnd1_e h
      have J89_96 : ∀ (σ89_ : Mem), s89 = σ89_ → Fr [8, 9, 49, 50, 51, 52, 53, 54] [(47, 9), (47, 10)] σ σ89_ → Fr [8, 9, 49, 50, 51, 52, 53, 54] [(47, 9), (47, 10)] σ (res) := by
        intro σ89_ he F
        rw [he] at h
        obtain ⟨v96, -, h⟩ := letv_e h
        exact F.t (ih _ _ _ h)
      replace h := h1
      rcases ite_or h with h | h
      · exact J89_96 _ (Option.some.inj h).symm F
      · obtain ⟨σ93, h1, h⟩ := bnd1_e h
        have F := F.c (fm_Ma_takeOffers h1) (by decide) (by decide)
        exact J89_96 _ (Option.some.inj h).symm F
set_option maxHeartbeats 4000000 in
theorem fm_Ma_sell {N : Nat} {σ : Mem} {a2 : Int32} {a3 : Int32} {σ' : Mem} (h : f_Ma_sell N σ a2 a3 = some σ') : Fr [8, 9, 49, 50, 51, 52, 53, 54] [(47, 9), (47, 10)] σ σ' := by
  have F := Fr.rf [8, 9, 49, 50, 51, 52, 53, 54] [(47, 9), (47, 10)] σ
  unfold f_Ma_sell at h
  obtain ⟨σ2, e_σ2, h⟩ := letv_e h
  have F := F.fI e_σ2 (by decide)
  obtain ⟨σ8_, h1, h⟩ := bnd1_e h
  have F := F.t (fmL_Ma_sell_l8 _ _ _ _ h1)
  have F : Fr [8, 9, 49, 50, 51, 52, 53, 54] [(47, 9), (47, 10)] σ σ8_ := F
  obtain ⟨σ62, h1, h⟩ := bnd1_e h
  have F := F.c (fm_JA_fill_d0a16 h1) (by decide) (by decide)
  obtain ⟨σ71, e_σ71, h⟩ := letv_e h
  have F := F.aL e_σ71 (by decide)
  exact F.t (fmL_Ma_sell_l75 _ _ _ _ h)
set_option maxHeartbeats 4000000 in
theorem fm_Sh_sale {N : Nat} {σ : Mem} {a1 : Int32} {a2 : Int32} {a3 : Int32} {r : Int32} {σ' : Mem} (h : f_Sh_sale N σ a1 a2 a3 = some (r, σ')) : Fr [8, 9, 34, 35, 36, 37, 38, 39, 49, 50, 51, 52, 53, 54] [(33, 6), (33, 9), (47, 9), (47, 10)] σ σ' := by
  have F := Fr.rf [8, 9, 34, 35, 36, 37, 38, 39, 49, 50, 51, 52, 53, 54] [(33, 6), (33, 9), (47, 9), (47, 10)] σ
  unfold f_Sh_sale at h
  obtain ⟨s3, h1, h⟩ := bnd1_e h
  have J3_14 : ∀ (y3_s0 : Int32), s3 = y3_s0 → Fr [8, 9, 34, 35, 36, 37, 38, 39, 49, 50, 51, 52, 53, 54] [(33, 6), (33, 9), (47, 9), (47, 10)] σ σ' := by
    intro y3_s0 he
    rw [he] at h
    obtain ⟨r22, h1, h⟩ := bnd1_e h
    obtain ⟨s25, h1, h⟩ := bnd1_e h
    have J25_43 : ∀ (y25_s0 : Int32), s25 = y25_s0 → Fr [8, 9, 34, 35, 36, 37, 38, 39, 49, 50, 51, 52, 53, 54] [(33, 6), (33, 9), (47, 9), (47, 10)] σ σ' := by
      intro y25_s0 he
      rw [he] at h
      obtain ⟨r46, h1, h⟩ := bnd1_e h
      obtain ⟨s49b, h1, h⟩ := bnd1_e h
      have J49b_74 : s49b = 0 → Fr [8, 9, 34, 35, 36, 37, 38, 39, 49, 50, 51, 52, 53, 54] [(33, 6), (33, 9), (47, 9), (47, 10)] σ σ' := by
        intro he
        rw [he] at h
        replace h := ite_t rfl h
        cases h
        exact F
      have J49b_77 : s49b = 1 → Fr [8, 9, 34, 35, 36, 37, 38, 39, 49, 50, 51, 52, 53, 54] [(33, 6), (33, 9), (47, 9), (47, 10)] σ σ' := by
        intro he
        rw [he] at h
        replace h := ite_f (by decide) h
        obtain ⟨r82, h1, h⟩ := bnd1_e h
        rcases ite_or h with h | h
        · cases h
          exact F
        · obtain ⟨σ96, h1, h⟩ := bnd1_e h
          have F := F.c (fm_Sh_today h1) (by decide) (by decide)
          obtain ⟨σ101, h1, h⟩ := bnd1_e h
          have F := F.c (fm_Ma_sell h1) (by decide) (by decide)
          rcases ite_or h with h | h
          · obtain ⟨r113, h1, h⟩ := bnd1_e h
            cases h
            exact F
          · rcases ite_or h with h | h
            · obtain ⟨r141, h1, h⟩ := bnd1_e h
              cases h
              exact F
            · obtain ⟨r129, h1, h⟩ := bnd1_e h
              cases h
              exact F
      replace h := h1
      rcases ite_or h with h | h
      · exact J49b_74 (Option.some.inj h).symm
      · rcases ite_or h with h | h
        · exact J49b_74 (Option.some.inj h).symm
        · rcases ite_or h with h | h
          · exact J49b_74 (Option.some.inj h).symm
          · rcases ite_or h with h | h
            · exact J49b_77 (Option.some.inj h).symm
            · rcases ite_or h with h | h
              · exact J49b_74 (Option.some.inj h).symm
              · exact J49b_77 (Option.some.inj h).symm
    replace h := h1
    obtain ⟨s25b, h1, h⟩ := bnd1_e h
    have J25b_42 : s25b = 0 → Fr [8, 9, 34, 35, 36, 37, 38, 39, 49, 50, 51, 52, 53, 54] [(33, 6), (33, 9), (47, 9), (47, 10)] σ σ' := by
      intro he
      rw [he] at h
      replace h := ite_t rfl h
      exact J25_43 _ (Option.some.inj h).symm
    have J25b_38 : s25b = 1 → Fr [8, 9, 34, 35, 36, 37, 38, 39, 49, 50, 51, 52, 53, 54] [(33, 6), (33, 9), (47, 9), (47, 10)] σ σ' := by
      intro he
      rw [he] at h
      replace h := ite_f (by decide) h
      exact J25_43 _ (Option.some.inj h).symm
    replace h := h1
    rcases ite_or h with h | h
    · exact J25b_42 (Option.some.inj h).symm
    · rcases ite_or h with h | h
      · exact J25b_38 (Option.some.inj h).symm
      · exact J25b_42 (Option.some.inj h).symm
  replace h := h1
  rcases ite_or h with h | h
  · exact J3_14 _ (Option.some.inj h).symm
  · exact J3_14 _ (Option.some.inj h).symm
set_option maxHeartbeats 4000000 in
theorem fm_Wi_tell {σ : Mem} {a1 : Int32} {a2 : Int32} {a3 : Int32} {a4 : Int32} {a5 : Int32} {a6 : Int32} {σ' : Mem} (h : f_Wi_tell σ a1 a2 a3 a4 a5 a6 = some σ') : Fr [57, 58, 59, 60, 61] [(56, 0)] σ σ' := by
  have F := Fr.rf [57, 58, 59, 60, 61] [(56, 0)] σ
  unfold f_Wi_tell at h
  obtain ⟨r2, h1, h⟩ := bnd1_e h
  rcases ite_or h with h | h
  · cases h
    exact F
  · obtain ⟨σ17, e_σ17, h⟩ := letv_e h
    have F := F.fI e_σ17 (by decide)
    replace h := (grd_e h).2
    obtain ⟨σ26, e_σ26, h⟩ := letv_e h
    have F := F.aI e_σ26 (by decide)
    replace h := (grd_e h).2
    obtain ⟨σ33, e_σ33, h⟩ := letv_e h
    have F := F.aI e_σ33 (by decide)
    replace h := (grd_e h).2
    obtain ⟨σ41, e_σ41, h⟩ := letv_e h
    have F := F.aI e_σ41 (by decide)
    replace h := (grd_e h).2
    obtain ⟨σ49, e_σ49, h⟩ := letv_e h
    have F := F.aI e_σ49 (by decide)
    replace h := (grd_e h).2
    obtain ⟨σ57, e_σ57, h⟩ := letv_e h
    have F := F.aI e_σ57 (by decide)
    cases h
    exact F
set_option maxHeartbeats 4000000 in
theorem fm_Sh_wish {σ : Mem} {a1 : Int32} {a2 : Int32} {a3 : Int32} {a4 : Int32} {a5 : Int32} {a6 : Int32} {a7 : Int32} {r : Int32} {σ' : Mem} (h : f_Sh_wish σ a1 a2 a3 a4 a5 a6 a7 = some (r, σ')) : Fr [57, 58, 59, 60, 61] [(56, 0)] σ σ' := by
  have F := Fr.rf [57, 58, 59, 60, 61] [(56, 0)] σ
  unfold f_Sh_wish at h
  obtain ⟨r5, h1, h⟩ := bnd1_e h
  rcases ite_or h with h | h
  · cases h
    exact F
  · obtain ⟨r13, h1, h⟩ := bnd1_e h
    rcases ite_or h with h | h
    · cases h
      exact F
    · obtain ⟨r25, h1, h⟩ := bnd1_e h
      rcases ite_or h with h | h
      · cases h
        exact F
      · rcases ite_or h with h | h
        · cases h
          exact F
        · rcases ite_or h with h | h
          · obtain ⟨σ65, h1, h⟩ := bnd1_e h
            have F := F.c (fm_Wi_tell h1) (by decide) (by decide)
            cases h
            exact F
          · cases h
            exact F
set_option maxHeartbeats 4000000 in
theorem fm_Sh_kept {N : Nat} {σ : Mem} {a1 : Int32} {r : Int32} {σ' : Mem} (h : f_Sh_kept N σ a1 = some (r, σ')) : Fr [8, 9, 34, 35, 36, 37, 38, 39] [(33, 6), (33, 9)] σ σ' := by
  have F := Fr.rf [8, 9, 34, 35, 36, 37, 38, 39] [(33, 6), (33, 9)] σ
  unfold f_Sh_kept at h
  obtain ⟨r5, h1, h⟩ := bnd1_e h
  rcases ite_or h with h | h
  · cases h
    exact F
  · obtain ⟨σ16, h1, h⟩ := bnd1_e h
    have F := F.c (fm_Sh_today h1) (by decide) (by decide)
    obtain ⟨r20, h1, h⟩ := bnd1_e h
    cases h
    exact F
set_option maxHeartbeats 4000000 in
theorem fm_Sh_happy {N : Nat} {σ : Mem} {r : Int32} {σ' : Mem} (h : f_Sh_happy N σ = some (r, σ')) : Fr [8, 9, 34, 35, 36, 37, 38, 39] [(33, 6), (33, 9)] σ σ' := by
  have F := Fr.rf [8, 9, 34, 35, 36, 37, 38, 39] [(33, 6), (33, 9)] σ
  unfold f_Sh_happy at h
  obtain ⟨σ1, h1, h⟩ := bnd1_e h
  have F := F.c (fm_Sh_today h1) (by decide) (by decide)
  obtain ⟨r11, h1, h⟩ := bnd1_e h
  obtain ⟨r20, h1, h⟩ := bnd1_e h
  cases h
  exact F
set_option maxHeartbeats 4000000 in
theorem fm_To_trial {σ : Mem} {a1 : Int32} {a2 : Int32} {a3 : Int32} {σ' : Mem} (h : f_To_trial σ a1 a2 a3 = some σ') : Fr [20, 21, 22, 23] [] σ σ' := by
  have F := Fr.rf [20, 21, 22, 23] [] σ
  unfold f_To_trial at h
  obtain ⟨r2, h1, h⟩ := bnd1_e h
  rcases ite_or h with h | h
  · cases h
    exact F
  · replace h := (grd_e h).2
    obtain ⟨σ20, e_σ20, h⟩ := letv_e h
    have F := F.aI e_σ20 (by decide)
    replace h := (grd_e h).2
    obtain ⟨σ33, e_σ33, h⟩ := letv_e h
    have F := F.aI e_σ33 (by decide)
    obtain ⟨σ41, e_σ41, h⟩ := letv_e h
    have F := F.aI e_σ41 (by decide)
    obtain ⟨σ49, e_σ49, h⟩ := letv_e h
    have F := F.aI e_σ49 (by decide)
    cases h
    exact F
set_option maxHeartbeats 4000000 in
theorem fm_Da_layTrial {N : Nat} {σ : Mem} {a1 : Int32} {σ' : Mem} (h : f_Da_layTrial N σ a1 = some σ') : Fr [40] [] σ σ' := by
  have F := Fr.rf [40] [] σ
  unfold f_Da_layTrial at h
  obtain ⟨σ5, h1, h⟩ := bnd1_e h
  have F := F.c (fm_JA_fill_53178 h1) (by decide) (by decide)
  obtain ⟨r10, h1, h⟩ := bnd1_e h
  rcases ite_or h with h | h
  · cases h
    exact F
  · obtain ⟨σ26, h1, h⟩ := bnd1_e h
    have F := F.c (fm_Da_spread h1) (by decide) (by decide)
    cases h
    exact F
set_option maxHeartbeats 4000000 in
theorem fmL_Wi_happinessOnTrial_l6 {N : Nat} {a2 : Int32} {a3 : Int32} : ∀ (k : Nat) (x4 : Int32) (x5 : Int32) (σ : Mem) (res : Int32 × Mem), L_Wi_happinessOnTrial_l6 N a2 a3 k x4 x5 σ = some res → Fr [40] [] σ (res.2) := by
  intro k
  induction k with
  | zero => intro x4 x5 σ res h; cases h
  | succ k ih =>
    intro x4 x5 σ res h
    have F := Fr.rf [40] [] σ
    replace h : B_Wi_happinessOnTrial_l6 N a2 a3 (L_Wi_happinessOnTrial_l6 N a2 a3 k) x4 x5 σ = some res := h
    unfold B_Wi_happinessOnTrial_l6 at h
    rcases ite_or h with h | h
    · cases h
      exact F
    · obtain ⟨σ16, h1, h⟩ := bnd1_e h
      have F := F.c (fm_Da_layTrial h1) (by decide) (by decide)
      obtain ⟨z22_4, h1, h⟩ := bnd1_e h
      obtain ⟨v100, -, h⟩ := letv_e h
      exact F.t (ih _ _ _ _ h)
set_option maxHeartbeats 4000000 in
theorem fm_Wi_happinessOnTrial {N : Nat} {σ : Mem} {a2 : Int32} {a3 : Int32} {r : Int32} {σ' : Mem} (h : f_Wi_happinessOnTrial N σ a2 a3 = some (r, σ')) : Fr [40] [] σ σ' := by
  have F := Fr.rf [40] [] σ
  unfold f_Wi_happinessOnTrial at h
  exact F.t (fmL_Wi_happinessOnTrial_l6 _ _ _ _ _ h)
set_option maxHeartbeats 4000000 in
theorem fm_Sh_storey {N : Nat} {σ : Mem} {a1 : Int32} {a2 : Int32} {r : Int32} {σ' : Mem} (h : f_Sh_storey N σ a1 a2 = some (r, σ')) : Fr [8, 9, 20, 21, 22, 23, 34, 35, 36, 37, 38, 39, 40] [(33, 6), (33, 9)] σ σ' := by
  have F := Fr.rf [8, 9, 20, 21, 22, 23, 34, 35, 36, 37, 38, 39, 40] [(33, 6), (33, 9)] σ
  unfold f_Sh_storey at h
  obtain ⟨r6, h1, h⟩ := bnd1_e h
  rcases ite_or h with h | h
  · cases h
    exact F
  · rcases ite_or h with h | h
    · cases h
      exact F
    · rcases ite_or h with h | h
      · replace h := (grd_e h).2
        replace h := (grd_e h).2
        obtain ⟨r53, h1, h⟩ := bnd1_e h
        obtain ⟨σ56, h1, h⟩ := bnd1_e h
        have F := F.c (fm_To_trial h1) (by decide) (by decide)
        obtain ⟨σ60, h1, h⟩ := bnd1_e h
        have F := F.c (fm_Sh_today h1) (by decide) (by decide)
        obtain ⟨s66, h1, h⟩ := bnd1_e h
        have J66_74 : ∀ (y66_s0 : Int32), s66 = y66_s0 → Fr [8, 9, 20, 21, 22, 23, 34, 35, 36, 37, 38, 39, 40] [(33, 6), (33, 9)] σ σ' := by
          intro y66_s0 he
          rw [he] at h
          obtain ⟨r84, σ84, h1, h⟩ := bnd2_e h
          have F := F.c (fm_Wi_happinessOnTrial h1) (by decide) (by decide)
          obtain ⟨r94, h1, h⟩ := bnd1_e h
          obtain ⟨v98, e_v98, h⟩ := letv_e h
          rcases ite_or h with h | h
          · cases h
            exact F
          · cases h
            exact F
        replace h := h1
        rcases ite_or h with h | h
        · exact J66_74 _ (Option.some.inj h).symm
        · exact J66_74 _ (Option.some.inj h).symm
      · cases h
        exact F
set_option maxHeartbeats 4000000 in
theorem fmL_Wi_findGains_l18 {N : Nat} {a2 : Int32} : ∀ (k : Nat) (x3 : Int32) (σ : Mem) (res : Mem), L_Wi_findGains_l18 N a2 k x3 σ = some res → Fr [62] [] σ (res) := by
  intro k
  induction k with
  | zero => intro x3 σ res h; cases h
  | succ k ih =>
    intro x3 σ res h
    have F := Fr.rf [62] [] σ
    replace h : B_Wi_findGains_l18 N a2 (L_Wi_findGains_l18 N a2 k) x3 σ = some res := h
    unfold B_Wi_findGains_l18 at h
    rcases ite_or h with h | h
    · cases h
      exact F
    · obtain ⟨r28, h1, h⟩ := bnd1_e h
      obtain ⟨s31, h1, h⟩ := bnd1_e h
      have J31_87 : ∀ (σ31_ : Mem), s31 = σ31_ → Fr [62] [] σ σ31_ → Fr [62] [] σ (res) := by
        intro σ31_ he F
        rw [he] at h
        obtain ⟨v87, -, h⟩ := letv_e h
        exact F.t (ih _ _ _ h)
      replace h := h1
      rcases ite_or h with h | h
      · exact J31_87 _ (Option.some.inj h).symm F
      · replace h := (grd_e h).2
        obtain ⟨r42, h1, h⟩ := bnd1_e h
        rcases ite_or h with h | h
        · replace h := (grd_e h).2
          obtain ⟨v58, e_v58, h⟩ := letv_e h
          replace h := (grd_e h).2
          replace h := (grd_e h).2
          obtain ⟨s66, h1, h⟩ := bnd1_e h
          have J66_85 : ∀ (y66_s3 : Int32), s66 = y66_s3 → Fr [62] [] σ (res) := by
            intro y66_s3 he
            rw [he] at h
            replace h := (grd_e h).2
            obtain ⟨σ86, e_σ86, h⟩ := letv_e h
            have F := F.aI e_σ86 (by decide)
            exact J31_87 _ (Option.some.inj h).symm F
          replace h := h1
          rcases ite_or h with h | h
          · replace h := (grd_e h).2
            exact J66_85 _ (Option.some.inj h).symm
          · replace h := (grd_e h).2
            exact J66_85 _ (Option.some.inj h).symm
        · exact J31_87 _ (Option.some.inj h).symm F
set_option maxHeartbeats 4000000 in
theorem fmL_Wi_findGains_l10 {N : Nat} : ∀ (k : Nat) (x2 : Int32) (σ : Mem) (res : Mem), L_Wi_findGains_l10 N k x2 σ = some res → Fr [62] [] σ (res) := by
  intro k
  induction k with
  | zero => intro x2 σ res h; cases h
  | succ k ih =>
    intro x2 σ res h
    have F := Fr.rf [62] [] σ
    replace h : B_Wi_findGains_l10 N (L_Wi_findGains_l10 N k) x2 σ = some res := h
    unfold B_Wi_findGains_l10 at h
    rcases ite_or h with h | h
    · cases h
      exact F
    · obtain ⟨σ18_, h1, h⟩ := bnd1_e h
      have F := F.t (fmL_Wi_findGains_l18 _ _ _ _ h1)
      have F : Fr [62] [] σ σ18_ := F
      obtain ⟨v93, -, h⟩ := letv_e h
      exact F.t (ih _ _ _ h)
set_option maxHeartbeats 4000000 in
theorem fm_Wi_findGains {N : Nat} {σ : Mem} {σ' : Mem} (h : f_Wi_findGains N σ = some σ') : Fr [62] [] σ σ' := by
  have F := Fr.rf [62] [] σ
  unfold f_Wi_findGains at h
  obtain ⟨σ5, h1, h⟩ := bnd1_e h
  have F := F.c (fm_JA_fill_53178 h1) (by decide) (by decide)
  exact F.t (fmL_Wi_findGains_l10 _ _ _ _ h)
set_option maxHeartbeats 4000000 in
theorem fmL_Wi_bestAwningOf_l13 {N : Nat} {a2 : Int32} : ∀ (k : Nat) (x3 : Int32) (x4 : Int32) (x5 : Int32) (σ : Mem) (res : Int32 × Mem), L_Wi_bestAwningOf_l13 N a2 k x3 x4 x5 σ = some res → Fr [62] [] σ (res.2) := by
  intro k
  induction k with
  | zero => intro x3 x4 x5 σ res h; cases h
  | succ k ih =>
    intro x3 x4 x5 σ res h
    have F := Fr.rf [62] [] σ
    replace h : B_Wi_bestAwningOf_l13 N a2 (L_Wi_bestAwningOf_l13 N a2 k) x3 x4 x5 σ = some res := h
    unfold B_Wi_bestAwningOf_l13 at h
    rcases ite_or h with h | h
    · cases h
      exact F
    · obtain ⟨x24_, h1, h⟩ := bnd1_e h
      obtain ⟨z24_3, z24_4⟩ := x24_
      replace h := q2_e h
      obtain ⟨v80, -, h⟩ := letv_e h
      exact F.t (ih _ _ _ _ _ h)
set_option maxHeartbeats 4000000 in
theorem fm_Wi_bestAwningOf {N : Nat} {σ : Mem} {a2 : Int32} {r : Int32} {σ' : Mem} (h : f_Wi_bestAwningOf N σ a2 = some (r, σ')) : Fr [62] [] σ σ' := by
  have F := Fr.rf [62] [] σ
  unfold f_Wi_bestAwningOf at h
  obtain ⟨σ2, h1, h⟩ := bnd1_e h
  have F := F.c (fm_Wi_findGains h1) (by decide) (by decide)
  exact F.t (fmL_Wi_bestAwningOf_l13 _ _ _ _ _ _ h)
set_option maxHeartbeats 4000000 in
theorem fm_Sh_bestAwning {N : Nat} {σ : Mem} {a1 : Int32} {a2 : Int32} {r : Int32} {σ' : Mem} (h : f_Sh_bestAwning N σ a1 a2 = some (r, σ')) : Fr [8, 9, 34, 35, 36, 37, 38, 39, 62] [(33, 6), (33, 9)] σ σ' := by
  have F := Fr.rf [8, 9, 34, 35, 36, 37, 38, 39, 62] [(33, 6), (33, 9)] σ
  unfold f_Sh_bestAwning at h
  obtain ⟨r1, h1, h⟩ := bnd1_e h
  rcases ite_or h with h | h
  · cases h
    exact F
  · rcases ite_or h with h | h
    · cases h
      exact F
    · rcases ite_or h with h | h
      · obtain ⟨σ19, h1, h⟩ := bnd1_e h
        have F := F.c (fm_Sh_today h1) (by decide) (by decide)
        obtain ⟨r29, σ29, h1, h⟩ := bnd2_e h
        have F := F.c (fm_Wi_bestAwningOf h1) (by decide) (by decide)
        rcases ite_or h with h | h
        · rcases ite_or h with h | h
          · obtain ⟨r53, h1, h⟩ := bnd1_e h
            obtain ⟨r62, h1, h⟩ := bnd1_e h
            obtain ⟨v66, e_v66, h⟩ := letv_e h
            obtain ⟨r83, h1, h⟩ := bnd1_e h
            cases h
            exact F
          · rcases ite_or h with h | h
            · cases h
              exact F
            · cases h
              exact F
        · cases h
          exact F
      · cases h
        exact F
set_option maxHeartbeats 4000000 in
theorem fmL_Da_changedByTrial_l11 {N : Nat} {a1 : Int32} {a2 : Int32} {a3 : Int32} : ∀ (k : Nat) (x4 : Int32) (x5 : Int32) (σ : Mem) (res : Int32 × Mem), L_Da_changedByTrial_l11 N a1 a2 a3 k x4 x5 σ = some res → Fr [40] [] σ (res.2) := by
  intro k
  induction k with
  | zero => intro x4 x5 σ res h; cases h
  | succ k ih =>
    intro x4 x5 σ res h
    have F := Fr.rf [40] [] σ
    replace h : B_Da_changedByTrial_l11 N a1 a2 a3 (L_Da_changedByTrial_l11 N a1 a2 a3 k) x4 x5 σ = some res := h
    unfold B_Da_changedByTrial_l11 at h
    rcases ite_or h with h | h
    · cases h
      exact F
    · obtain ⟨r23, h1, h⟩ := bnd1_e h
      obtain ⟨s26, h1, h⟩ := bnd1_e h
      have J26_34 : ∀ (y26_s0 : Int32), s26 = y26_s0 → Fr [40] [] σ (res.2) := by
        intro y26_s0 he
        rw [he] at h
        obtain ⟨r41, h1, h⟩ := bnd1_e h
        obtain ⟨s50, h1, h⟩ := bnd1_e h
        have J50_62 : ∀ (y50_4 : Int32), s50 = y50_4 → Fr [40] [] σ (res.2) := by
          intro y50_4 he
          rw [he] at h
          obtain ⟨v62, -, h⟩ := letv_e h
          exact F.t (ih _ _ _ _ h)
        replace h := h1
        rcases ite_or h with h | h
        · exact J50_62 _ (Option.some.inj h).symm
        · rcases ite_or h with h | h
          · obtain ⟨v59, -, h⟩ := letv_e h
            exact J50_62 _ (Option.some.inj h).symm
          · exact J50_62 _ (Option.some.inj h).symm
      replace h := h1
      rcases ite_or h with h | h
      · exact J26_34 _ (Option.some.inj h).symm
      · exact J26_34 _ (Option.some.inj h).symm
set_option maxHeartbeats 4000000 in
theorem fm_Da_changedByTrial {N : Nat} {σ : Mem} {a1 : Int32} {a2 : Int32} {a3 : Int32} {r : Int32} {σ' : Mem} (h : f_Da_changedByTrial N σ a1 a2 a3 = some (r, σ')) : Fr [40] [] σ σ' := by
  have F := Fr.rf [40] [] σ
  unfold f_Da_changedByTrial at h
  obtain ⟨σ2, h1, h⟩ := bnd1_e h
  have F := F.c (fm_Da_layTrial h1) (by decide) (by decide)
  exact F.t (fmL_Da_changedByTrial_l11 _ _ _ _ _ h)
set_option maxHeartbeats 4000000 in
theorem fmL_Sh_hat_l69 {N : Nat} {a1 : Int32} {a4 : Int32} : ∀ (k : Nat) (x6 : Int32) (x7 : Int32) (σ : Mem) (res : Int32 × Mem), L_Sh_hat_l69 N a1 a4 k x6 x7 σ = some res → Fr [8, 9, 20, 21, 22, 23, 34, 35, 36, 37, 38, 39, 40] [(33, 6), (33, 9)] σ (res.2) := by
  intro k
  induction k with
  | zero => intro x6 x7 σ res h; cases h
  | succ k ih =>
    intro x6 x7 σ res h
    have F := Fr.rf [8, 9, 20, 21, 22, 23, 34, 35, 36, 37, 38, 39, 40] [(33, 6), (33, 9)] σ
    replace h : B_Sh_hat_l69 N a1 a4 (L_Sh_hat_l69 N a1 a4 k) x6 x7 σ = some res := h
    unfold B_Sh_hat_l69 at h
    rcases ite_or h with h | h
    · cases h
      exact F
    · obtain ⟨s85, h1, h⟩ := bnd1_e h
      have J85_93 : ∀ (y85_s4 : Int32), s85 = y85_s4 → Fr [8, 9, 20, 21, 22, 23, 34, 35, 36, 37, 38, 39, 40] [(33, 6), (33, 9)] σ (res.2) := by
        intro y85_s4 he
        rw [he] at h
        obtain ⟨r93, σ93, h1, h⟩ := bnd2_e h
        have F := F.c (fm_Da_changedByTrial h1) (by decide) (by decide)
        obtain ⟨v97, e_v97, h⟩ := letv_e h
        obtain ⟨v99, -, h⟩ := letv_e h
        exact F.t (ih _ _ _ _ h)
      replace h := h1
      rcases ite_or h with h | h
      · exact J85_93 _ (Option.some.inj h).symm
      · exact J85_93 _ (Option.some.inj h).symm
set_option maxHeartbeats 4000000 in
theorem fm_Sh_hat {N : Nat} {σ : Mem} {a1 : Int32} {a2 : Int32} {a3 : Int32} {a4 : Int32} {r : Int32} {σ' : Mem} (h : f_Sh_hat N σ a1 a2 a3 a4 = some (r, σ')) : Fr [8, 9, 20, 21, 22, 23, 34, 35, 36, 37, 38, 39, 40] [(33, 6), (33, 9)] σ σ' := by
  have F := Fr.rf [8, 9, 20, 21, 22, 23, 34, 35, 36, 37, 38, 39, 40] [(33, 6), (33, 9)] σ
  unfold f_Sh_hat at h
  obtain ⟨r6, h1, h⟩ := bnd1_e h
  rcases ite_or h with h | h
  · cases h
    exact F
  · obtain ⟨r15, σ15, h1, h⟩ := bnd2_e h
    have F := F.c (fm_Sh_isFree h1) (by decide) (by decide)
    rcases ite_or h with h | h
    · cases h
      exact F
    · rcases ite_or h with h | h
      · cases h
        exact F
      · rcases ite_or h with h | h
        · replace h := (grd_e h).2
          obtain ⟨σ54, h1, h⟩ := bnd1_e h
          have F := F.c (fm_To_trial h1) (by decide) (by decide)
          obtain ⟨σ58, h1, h⟩ := bnd1_e h
          have F := F.c (fm_Sh_today h1) (by decide) (by decide)
          exact F.t (fmL_Sh_hat_l69 _ _ _ _ _ h)
        · cases h
          exact F
set_option maxHeartbeats 4000000 in
theorem fm_Sh_takenDown {N : Nat} {σ : Mem} {r : Int32} {σ' : Mem} (h : f_Sh_takenDown N σ = some (r, σ')) : Fr [8, 9, 34, 35, 36, 37, 38, 39] [(33, 6), (33, 9)] σ σ' := by
  have F := Fr.rf [8, 9, 34, 35, 36, 37, 38, 39] [(33, 6), (33, 9)] σ
  unfold f_Sh_takenDown at h
  obtain ⟨σ5, h1, h⟩ := bnd1_e h
  have F := F.c (fm_Sh_today h1) (by decide) (by decide)
  obtain ⟨r12, h1, h⟩ := bnd1_e h
  cases h
  exact F
set_option maxHeartbeats 4000000 in
theorem fmL_Ma_noonsOf_l31 {N : Nat} {a1 : Int32} {a2 : Int32} {a4 : Int32} {a5 : Int32} : ∀ (k : Nat) (x6 : Int32) (x7 : Int32) (σ : Mem) (res : Mem), L_Ma_noonsOf_l31 N a1 a2 a4 a5 k x6 x7 σ = some res → Fr [55] [] σ (res) := by
  intro k
  induction k with
  | zero => intro x6 x7 σ res h; cases h
  | succ k ih =>
    intro x6 x7 σ res h
    have F := Fr.rf [55] [] σ
    replace h : B_Ma_noonsOf_l31 N a1 a2 a4 a5 (L_Ma_noonsOf_l31 N a1 a2 a4 a5 k) x6 x7 σ = some res := h
    unfold B_Ma_noonsOf_l31 at h
    rcases ite_or h with h | h
    · cases h
      exact F
    · obtain ⟨r41, h1, h⟩ := bnd1_e h
      obtain ⟨s49, h1, h⟩ := bnd1_e h
      have J49_72 : ∀ (y49_6 : Int32) (σ49_ : Mem), s49 = (y49_6, σ49_) → Fr [55] [] σ σ49_ → Fr [55] [] σ (res) := by
        intro y49_6 σ49_ he F
        rw [he] at h
        replace h := q2_e h
        obtain ⟨v72, -, h⟩ := letv_e h
        exact F.t (ih _ _ _ _ h)
      replace h := h1
      rcases ite_or h with h | h
      · exact J49_72 _ _ (Option.some.inj h).symm F
      · replace h := (grd_e h).2
        replace h := (grd_e h).2
        obtain ⟨σ62, e_σ62, h⟩ := letv_e h
        have F := F.aI e_σ62 (by decide)
        obtain ⟨v70, e_v70, h⟩ := letv_e h
        exact J49_72 _ _ (Option.some.inj h).symm F
set_option maxHeartbeats 4000000 in
theorem fmL_Ma_noonsOf_l19 {N : Nat} {a1 : Int32} {a2 : Int32} {a4 : Int32} : ∀ (k : Nat) (x5 : Int32) (σ : Mem) (res : Mem), L_Ma_noonsOf_l19 N a1 a2 a4 k x5 σ = some res → Fr [55] [] σ (res) := by
  intro k
  induction k with
  | zero => intro x5 σ res h; cases h
  | succ k ih =>
    intro x5 σ res h
    have F := Fr.rf [55] [] σ
    replace h : B_Ma_noonsOf_l19 N a1 a2 a4 (L_Ma_noonsOf_l19 N a1 a2 a4 k) x5 σ = some res := h
    unfold B_Ma_noonsOf_l19 at h
    rcases ite_or h with h | h
    · cases h
      exact F
    · obtain ⟨σ31_, h1, h⟩ := bnd1_e h
      have F := F.t (fmL_Ma_noonsOf_l31 _ _ _ _ _ h1)
      have F : Fr [55] [] σ σ31_ := F
      obtain ⟨v78, -, h⟩ := letv_e h
      exact F.t (ih _ _ _ h)
set_option maxHeartbeats 4000000 in
theorem fm_Ma_noonsOf {N : Nat} {σ : Mem} {a1 : Int32} {a2 : Int32} {a3 : Int32} {r : Int32} {σ' : Mem} (h : f_Ma_noonsOf N σ a1 a2 a3 = some (r, σ')) : Fr [55] [] σ σ' := by
  have F := Fr.rf [55] [] σ
  unfold f_Ma_noonsOf at h
  obtain ⟨σ5, h1, h⟩ := bnd1_e h
  have F := F.c (fm_JA_fill_53178 h1) (by decide) (by decide)
  obtain ⟨r11, h1, h⟩ := bnd1_e h
  obtain ⟨σ19_, h1, h⟩ := bnd1_e h
  have F := F.t (fmL_Ma_noonsOf_l19 _ _ _ _ h1)
  have F : Fr [55] [] σ σ19_ := F
  obtain ⟨r86, h1, h⟩ := bnd1_e h
  rcases ite_or h with h | h
  · cases h
    exact F
  · replace h := (grd_e h).2
    cases h
    exact F
set_option maxHeartbeats 4000000 in
theorem fm_Sh_noon {N : Nat} {σ : Mem} {a1 : Int32} {a2 : Int32} {r : Int32} {σ' : Mem} (h : f_Sh_noon N σ a1 a2 = some (r, σ')) : Fr [8, 9, 34, 35, 36, 37, 38, 39, 55] [(33, 6), (33, 9)] σ σ' := by
  have F := Fr.rf [8, 9, 34, 35, 36, 37, 38, 39, 55] [(33, 6), (33, 9)] σ
  unfold f_Sh_noon at h
  rcases ite_or h with h | h
  · cases h
    exact F
  · rcases ite_or h with h | h
    · cases h
      exact F
    · obtain ⟨r16, h1, h⟩ := bnd1_e h
      rcases ite_or h with h | h
      · cases h
        exact F
      · obtain ⟨σ31, h1, h⟩ := bnd1_e h
        have F := F.c (fm_Sh_today h1) (by decide) (by decide)
        obtain ⟨r36, h1, h⟩ := bnd1_e h
        obtain ⟨r39, σ39, h1, h⟩ := bnd2_e h
        have F := F.c (fm_Ma_noonsOf h1) (by decide) (by decide)
        cases h
        exact F
set_option maxHeartbeats 4000000 in
theorem fm_La_askTree {N : Nat} {σ : Mem} {a1 : Int32} {a2 : Int32} {a3 : Int32} {σ' : Mem} (h : f_La_askTree N σ a1 a2 a3 = some σ') : Fr [8] [] σ σ' := by
  have F := Fr.rf [8] [] σ
  unfold f_La_askTree at h
  obtain ⟨σ3, h1, h⟩ := bnd1_e h
  have F := F.c (fm_La_askHour h1) (by decide) (by decide)
  obtain ⟨σ13, e_σ13, h⟩ := letv_e h
  have F := F.aI e_σ13 (by decide)
  obtain ⟨σ21, e_σ21, h⟩ := letv_e h
  have F := F.aI e_σ21 (by decide)
  cases h
  exact F
set_option maxHeartbeats 4000000 in
theorem fmL_Sh_growTrees_l4 {N : Nat} : ∀ (k : Nat) (x1 : Int32) (x2 : Int32) (σ : Mem) (res : Int32 × Mem), L_Sh_growTrees_l4 N k x1 x2 σ = some res → Fr [8, 9, 22] [] σ (res.2) := by
  intro k
  induction k with
  | zero => intro x1 x2 σ res h; cases h
  | succ k ih =>
    intro x1 x2 σ res h
    have F := Fr.rf [8, 9, 22] [] σ
    replace h : B_Sh_growTrees_l4 N (L_Sh_growTrees_l4 N k) x1 x2 σ = some res := h
    unfold B_Sh_growTrees_l4 at h
    rcases ite_or h with h | h
    · cases h
      exact F
    · obtain ⟨r21, h1, h⟩ := bnd1_e h
      obtain ⟨s24, h1, h⟩ := bnd1_e h
      have J24_111 : ∀ (y24_1 : Int32) (σ24_ : Mem), s24 = (y24_1, σ24_) → Fr [8, 9, 22] [] σ σ24_ → Fr [8, 9, 22] [] σ (res.2) := by
        intro y24_1 σ24_ he F
        rw [he] at h
        replace h := q2_e h
        obtain ⟨v111, -, h⟩ := letv_e h
        exact F.t (ih _ _ _ _ h)
      replace h := h1
      rcases ite_or h with h | h
      · exact J24_111 _ _ (Option.some.inj h).symm F
      · replace h := (grd_e h).2
        replace h := (grd_e h).2
        obtain ⟨σ56, h1, h⟩ := bnd1_e h
        have F := F.c (fm_La_askTree h1) (by decide) (by decide)
        replace h := (grd_e h).2
        obtain ⟨r79, σ79, h1, h⟩ := bnd2_e h
        have F := F.c (fm_La_valueOf h1) (by decide) (by decide)
        obtain ⟨r83, h1, h⟩ := bnd1_e h
        replace h := (grd_e h).2
        obtain ⟨v100, e_v100, h⟩ := letv_e h
        replace h := (grd_e h).2
        obtain ⟨σ110, e_σ110, h⟩ := letv_e h
        have F := F.aI e_σ110 (by decide)
        exact J24_111 _ _ (Option.some.inj h).symm F
set_option maxHeartbeats 4000000 in
theorem fm_Sh_growTrees {N : Nat} {σ : Mem} {r : Int32} {σ' : Mem} (h : f_Sh_growTrees N σ = some (r, σ')) : Fr [8, 9, 22] [] σ σ' := by
  have F := Fr.rf [8, 9, 22] [] σ
  unfold f_Sh_growTrees at h
  exact F.t (fmL_Sh_growTrees_l4 _ _ _ _ _ h)
set_option maxHeartbeats 4000000 in
theorem fmL_Sh_years_l17 {N : Nat} {a1 : Int32} : ∀ (k : Nat) (x2 : Int32) (x3 : Int32) (σ : Mem) (res : Int32 × Mem), L_Sh_years_l17 N a1 k x2 x3 σ = some res → Fr [8, 9, 22] [(33, 9)] σ (res.2) := by
  intro k
  induction k with
  | zero => intro x2 x3 σ res h; cases h
  | succ k ih =>
    intro x2 x3 σ res h
    have F := Fr.rf [8, 9, 22] [(33, 9)] σ
    replace h : B_Sh_years_l17 N a1 (L_Sh_years_l17 N a1 k) x2 x3 σ = some res := h
    unfold B_Sh_years_l17 at h
    rcases ite_or h with h | h
    · obtain ⟨σ39, h1, h⟩ := bnd1_e h
      have F := F.c (fm_Da_forgetShade h1) (by decide) (by decide)
      cases h
      exact F
    · obtain ⟨r24, σ24, h1, h⟩ := bnd2_e h
      have F := F.c (fm_Sh_growTrees h1) (by decide) (by decide)
      obtain ⟨v28, e_v28, h⟩ := letv_e h
      obtain ⟨v29, -, h⟩ := letv_e h
      exact F.t (ih _ _ _ _ h)
set_option maxHeartbeats 4000000 in
theorem fm_Sh_years {N : Nat} {σ : Mem} {a1 : Int32} {r : Int32} {σ' : Mem} (h : f_Sh_years N σ a1 = some (r, σ')) : Fr [8, 9, 22] [(33, 9)] σ σ' := by
  have F := Fr.rf [8, 9, 22] [(33, 9)] σ
  unfold f_Sh_years at h
  rcases ite_or h with h | h
  · cases h
    exact F
  · rcases ite_or h with h | h
    · exact F.t (fmL_Sh_years_l17 _ _ _ _ _ h)
    · cases h
      exact F
set_option maxHeartbeats 4000000 in
theorem fmL_Cl_bringHour_l43 {N : Nat} {a3 : Int32} {a4 : Int32} {a5 : Int32} {a6 : Int32} : ∀ (k : Nat) (x7 : Int32) (σ : Mem) (res : Mem), L_Cl_bringHour_l43 N a3 a4 a5 a6 k x7 σ = some res → Fr [8, 9, 64] [] σ (res) := by
  intro k
  induction k with
  | zero => intro x7 σ res h; cases h
  | succ k ih =>
    intro x7 σ res h
    have F := Fr.rf [8, 9, 64] [] σ
    replace h : B_Cl_bringHour_l43 N a3 a4 a5 a6 (L_Cl_bringHour_l43 N a3 a4 a5 a6 k) x7 σ = some res := h
    unfold B_Cl_bringHour_l43 at h
    rcases ite_or h with h | h
    · cases h
      exact F
    · obtain ⟨s58, h1, h⟩ := bnd1_e h
      have J58_83 : ∀ (σ58_ : Mem), s58 = σ58_ → Fr [8, 9, 64] [] σ σ58_ → Fr [8, 9, 64] [] σ (res) := by
        intro σ58_ he F
        rw [he] at h
        obtain ⟨v83, -, h⟩ := letv_e h
        exact F.t (ih _ _ _ h)
      replace h := h1
      rcases ite_or h with h | h
      · replace h := (grd_e h).2
        obtain ⟨v77, e_v77, h⟩ := letv_e h
        replace h := (grd_e h).2
        replace h := (grd_e h).2
        obtain ⟨σ82, e_σ82, h⟩ := letv_e h
        have F := F.aI e_σ82 (by decide)
        exact J58_83 _ (Option.some.inj h).symm F
      · exact J58_83 _ (Option.some.inj h).symm F
set_option maxHeartbeats 4000000 in
theorem fmL_Cl_bringHour_l3 {N : Nat} {a3 : Int32} : ∀ (k : Nat) (x4 : Int32) (σ : Mem) (res : Mem), L_Cl_bringHour_l3 N a3 k x4 σ = some res → Fr [8, 9, 64] [] σ (res) := by
  intro k
  induction k with
  | zero => intro x4 σ res h; cases h
  | succ k ih =>
    intro x4 σ res h
    have F := Fr.rf [8, 9, 64] [] σ
    replace h : B_Cl_bringHour_l3 N a3 (L_Cl_bringHour_l3 N a3 k) x4 σ = some res := h
    unfold B_Cl_bringHour_l3 at h
    rcases ite_or h with h | h
    · cases h
      exact F
    · obtain ⟨r15, h1, h⟩ := bnd1_e h
      obtain ⟨s22, h1, h⟩ := bnd1_e h
      have J22_89 : ∀ (σ22_ : Mem), s22 = σ22_ → Fr [8, 9, 64] [] σ σ22_ → Fr [8, 9, 64] [] σ (res) := by
        intro σ22_ he F
        rw [he] at h
        obtain ⟨v89, -, h⟩ := letv_e h
        exact F.t (ih _ _ _ h)
      replace h := h1
      rcases ite_or h with h | h
      · exact J22_89 _ (Option.some.inj h).symm F
      · obtain ⟨r29, σ29, h1, h⟩ := bnd2_e h
        have F := F.c (fm_Da_priceOf h1) (by decide) (by decide)
        obtain ⟨r34, h1, h⟩ := bnd1_e h
        replace h := (grd_e h).2
        obtain ⟨v38, e_v38, h⟩ := letv_e h
        obtain ⟨σ43_, h1, h⟩ := bnd1_e h
        have F := F.t (fmL_Cl_bringHour_l43 _ _ _ _ h1)
        have F : Fr [8, 9, 64] [] σ σ43_ := F
        exact J22_89 _ (Option.some.inj h).symm F
set_option maxHeartbeats 4000000 in
theorem fm_Cl_bringHour {N : Nat} {σ : Mem} {a3 : Int32} {σ' : Mem} (h : f_Cl_bringHour N σ a3 = some σ') : Fr [8, 9, 64] [] σ σ' := by
  have F := Fr.rf [8, 9, 64] [] σ
  unfold f_Cl_bringHour at h
  exact F.t (fmL_Cl_bringHour_l3 _ _ _ _ h)
set_option maxHeartbeats 4000000 in
theorem fmL_Cl_payHour_l5 {N : Nat} {a2 : Int32} : ∀ (k : Nat) (x3 : Int32) (x4 : Int32) (σ : Mem) (res : Int32 × Mem), L_Cl_payHour_l5 N a2 k x3 x4 σ = some res → Fr [25] [] σ (res.2) := by
  intro k
  induction k with
  | zero => intro x3 x4 σ res h; cases h
  | succ k ih =>
    intro x3 x4 σ res h
    have F := Fr.rf [25] [] σ
    replace h : B_Cl_payHour_l5 N a2 (L_Cl_payHour_l5 N a2 k) x3 x4 σ = some res := h
    unfold B_Cl_payHour_l5 at h
    rcases ite_or h with h | h
    · cases h
      exact F
    · replace h := (grd_e h).2
      obtain ⟨v24, e_v24, h⟩ := letv_e h
      replace h := (grd_e h).2
      replace h := (grd_e h).2
      obtain ⟨σ37, e_σ37, h⟩ := letv_e h
      have F := F.aI e_σ37 (by decide)
      obtain ⟨v42, e_v42, h⟩ := letv_e h
      obtain ⟨v43, -, h⟩ := letv_e h
      exact F.t (ih _ _ _ _ h)
set_option maxHeartbeats 4000000 in
theorem fm_Cl_payHour {N : Nat} {σ : Mem} {a2 : Int32} {r : Int32} {σ' : Mem} (h : f_Cl_payHour N σ a2 = some (r, σ')) : Fr [25] [] σ σ' := by
  have F := Fr.rf [25] [] σ
  unfold f_Cl_payHour at h
  exact F.t (fmL_Cl_payHour_l5 _ _ _ _ _ h)
set_option maxHeartbeats 4000000 in
theorem fmL_Cl_drawDays_l11 {N : Nat} {a3 : Int32} : ∀ (k : Nat) (x4 : Int32) (σ : Mem) (res : Mem), L_Cl_drawDays_l11 N a3 k x4 σ = some res → Fr [8, 9, 25, 64] [(19, 9)] σ (res) := by
  intro k
  induction k with
  | zero => intro x4 σ res h; cases h
  | succ k ih =>
    intro x4 σ res h
    have F := Fr.rf [8, 9, 25, 64] [(19, 9)] σ
    replace h : B_Cl_drawDays_l11 N a3 (L_Cl_drawDays_l11 N a3 k) x4 σ = some res := h
    unfold B_Cl_drawDays_l11 at h
    rcases ite_or h with h | h
    · cases h
      exact F
    · obtain ⟨r21, h1, h⟩ := bnd1_e h
      obtain ⟨s24, h1, h⟩ := bnd1_e h
      have J24_35 : ∀ (σ24_ : Mem), s24 = σ24_ → Fr [8, 9, 25, 64] [(19, 9)] σ σ24_ → Fr [8, 9, 25, 64] [(19, 9)] σ (res) := by
        intro σ24_ he F
        rw [he] at h
        obtain ⟨v35, -, h⟩ := letv_e h
        exact F.t (ih _ _ _ h)
      replace h := h1
      rcases ite_or h with h | h
      · exact J24_35 _ (Option.some.inj h).symm F
      · obtain ⟨σ32, h1, h⟩ := bnd1_e h
        have F := F.c (fm_Cl_bringHour h1) (by decide) (by decide)
        exact J24_35 _ (Option.some.inj h).symm F
set_option maxHeartbeats 4000000 in
theorem fmL_Cl_drawDays_l47 {N : Nat} {a3 : Int32} : ∀ (k : Nat) (x4 : Int32) (x5 : Int32) (σ : Mem) (res : Int32 × Mem), L_Cl_drawDays_l47 N a3 k x4 x5 σ = some res → Fr [8, 9, 25, 64] [(19, 9)] σ (res.2) := by
  intro k
  induction k with
  | zero => intro x4 x5 σ res h; cases h
  | succ k ih =>
    intro x4 x5 σ res h
    have F := Fr.rf [8, 9, 25, 64] [(19, 9)] σ
    replace h : B_Cl_drawDays_l47 N a3 (L_Cl_drawDays_l47 N a3 k) x4 x5 σ = some res := h
    unfold B_Cl_drawDays_l47 at h
    rcases ite_or h with h | h
    · cases h
      exact F
    · obtain ⟨σ72, e_σ72, h⟩ := letv_e h
      have F := F.fI e_σ72 (by decide)
      obtain ⟨v80, e_v80, h⟩ := letv_e h
      obtain ⟨r85, h1, h⟩ := bnd1_e h
      obtain ⟨s88, h1, h⟩ := bnd1_e h
      have J88_119 : ∀ (y88_4 : Int32) (σ88_ : Mem), s88 = (y88_4, σ88_) → Fr [8, 9, 25, 64] [(19, 9)] σ σ88_ → Fr [8, 9, 25, 64] [(19, 9)] σ (res.2) := by
        intro y88_4 σ88_ he F
        rw [he] at h
        replace h := q2_e h
        obtain ⟨v119, -, h⟩ := letv_e h
        exact F.t (ih _ _ _ _ h)
      replace h := h1
      rcases ite_or h with h | h
      · exact J88_119 _ _ (Option.some.inj h).symm F
      · obtain ⟨r101, h1, h⟩ := bnd1_e h
        rcases ite_or h with h | h
        · exact J88_119 _ _ (Option.some.inj h).symm F
        · obtain ⟨r113, σ113, h1, h⟩ := bnd2_e h
          have F := F.c (fm_Cl_payHour h1) (by decide) (by decide)
          obtain ⟨v117, e_v117, h⟩ := letv_e h
          exact J88_119 _ _ (Option.some.inj h).symm F
set_option maxHeartbeats 4000000 in
theorem fm_Cl_drawDays {N : Nat} {σ : Mem} {a3 : Int32} {r : Int32} {σ' : Mem} (h : f_Cl_drawDays N σ a3 = some (r, σ')) : Fr [8, 9, 25, 64] [(19, 9)] σ σ' := by
  have F := Fr.rf [8, 9, 25, 64] [(19, 9)] σ
  unfold f_Cl_drawDays at h
  obtain ⟨σ5, h1, h⟩ := bnd1_e h
  have F := F.c (fm_JA_fill_53178 h1) (by decide) (by decide)
  obtain ⟨σ11_, h1, h⟩ := bnd1_e h
  have F := F.t (fmL_Cl_drawDays_l11 _ _ _ _ h1)
  have F : Fr [8, 9, 25, 64] [(19, 9)] σ σ11_ := F
  exact F.t (fmL_Cl_drawDays_l47 _ _ _ _ _ h)
set_option maxHeartbeats 4000000 in
theorem fm_Sh_days {N : Nat} {σ : Mem} {a1 : Int32} {r : Int32} {σ' : Mem} (h : f_Sh_days N σ a1 = some (r, σ')) : Fr [8, 9, 25, 34, 35, 36, 37, 38, 39, 64] [(19, 9), (33, 6), (33, 9)] σ σ' := by
  have F := Fr.rf [8, 9, 25, 34, 35, 36, 37, 38, 39, 64] [(19, 9), (33, 6), (33, 9)] σ
  unfold f_Sh_days at h
  rcases ite_or h with h | h
  · cases h
    exact F
  · rcases ite_or h with h | h
    · obtain ⟨σ18, h1, h⟩ := bnd1_e h
      have F := F.c (fm_Sh_today h1) (by decide) (by decide)
      obtain ⟨r26, σ26, h1, h⟩ := bnd2_e h
      have F := F.c (fm_Cl_drawDays h1) (by decide) (by decide)
      cases h
      exact F
    · cases h
      exact F
set_option maxHeartbeats 4000000 in
theorem fmL_Sh_odds_l38 {N : Nat} {a2 : Int32} {a3 : Int32} : ∀ (k : Nat) (x5 : Int64) (x7 : Int64) (x9 : Int32) (σ : Mem) (res : Int64 × Mem), L_Sh_odds_l38 N a2 a3 k x5 x7 x9 σ = some res → Fr [8, 9, 34, 35, 36, 37, 38, 39] [(33, 6), (33, 9)] σ (res.2) := by
  intro k
  induction k with
  | zero => intro x5 x7 x9 σ res h; cases h
  | succ k ih =>
    intro x5 x7 x9 σ res h
    have F := Fr.rf [8, 9, 34, 35, 36, 37, 38, 39] [(33, 6), (33, 9)] σ
    replace h : B_Sh_odds_l38 N a2 a3 (L_Sh_odds_l38 N a2 a3 k) x5 x7 x9 σ = some res := h
    unfold B_Sh_odds_l38 at h
    rcases ite_or h with h | h
    · obtain ⟨r89, h1, h⟩ := bnd1_e h
      cases h
      exact F
    · obtain ⟨r48, h1, h⟩ := bnd1_e h
      obtain ⟨s51, h1, h⟩ := bnd1_e h
      have J51_78 : ∀ (y51_5 : Int64) (y51_7 : Int64), s51 = (y51_5, y51_7) → Fr [8, 9, 34, 35, 36, 37, 38, 39] [(33, 6), (33, 9)] σ (res.2) := by
        intro y51_5 y51_7 he
        rw [he] at h
        replace h := q2_e h
        obtain ⟨v78, -, h⟩ := letv_e h
        exact F.t (ih _ _ _ _ _ h)
      replace h := h1
      rcases ite_or h with h | h
      · exact J51_78 _ _ (Option.some.inj h).symm
      · obtain ⟨r62, h1, h⟩ := bnd1_e h
        obtain ⟨v68, e_v68, h⟩ := letv_e h
        obtain ⟨v76, e_v76, h⟩ := letv_e h
        exact J51_78 _ _ (Option.some.inj h).symm
set_option maxHeartbeats 4000000 in
theorem fm_Sh_odds {N : Nat} {σ : Mem} {a1 : Int32} {a2 : Int32} {a3 : Int32} {r : Int64} {σ' : Mem} (h : f_Sh_odds N σ a1 a2 a3 = some (r, σ')) : Fr [8, 9, 34, 35, 36, 37, 38, 39] [(33, 6), (33, 9)] σ σ' := by
  have F := Fr.rf [8, 9, 34, 35, 36, 37, 38, 39] [(33, 6), (33, 9)] σ
  unfold f_Sh_odds at h
  obtain ⟨r4, h1, h⟩ := bnd1_e h
  rcases ite_or h with h | h
  · cases h
    exact F
  · rcases ite_or h with h | h
    · cases h
      exact F
    · rcases ite_or h with h | h
      · obtain ⟨σ24, h1, h⟩ := bnd1_e h
        have F := F.c (fm_Sh_today h1) (by decide) (by decide)
        exact F.t (fmL_Sh_odds_l38 _ _ _ _ _ _ h)
      · cases h
        exact F
set_option maxHeartbeats 4000000 in
theorem fm_Sh_seed {σ : Mem} {a1 : Int32} {r : Int32} {σ' : Mem} (h : f_Sh_seed σ a1 = some (r, σ')) : Fr [] [(19, 9)] σ σ' := by
  have F := Fr.rf [] [(19, 9)] σ
  unfold f_Sh_seed at h
  rcases ite_or h with h | h
  · cases h
    exact F
  · rcases ite_or h with h | h
    · obtain ⟨σ18, e_σ18, h⟩ := letv_e h
      have F := F.fI e_σ18 (by decide)
      cases h
      exact F
    · cases h
      exact F
set_option maxHeartbeats 4000000 in
theorem fm_To_copyFrom_b {σ : Mem} {σ' : Mem} (h : f_To_copyFrom_b σ = some σ') : Fr [27, 28, 29, 30, 31, 32] [(26, 6), (26, 7), (26, 8), (26, 9)] σ σ' := by
  have F := Fr.rf [27, 28, 29, 30, 31, 32] [(26, 6), (26, 7), (26, 8), (26, 9)] σ
  unfold f_To_copyFrom_b at h
  obtain ⟨σ12, e_σ12, h⟩ := letv_e h
  have F := F.cp e_σ12 (by decide)
  obtain ⟨σ27, e_σ27, h⟩ := letv_e h
  have F := F.cp e_σ27 (by decide)
  obtain ⟨σ42, e_σ42, h⟩ := letv_e h
  have F := F.cp e_σ42 (by decide)
  obtain ⟨σ57, e_σ57, h⟩ := letv_e h
  have F := F.cp e_σ57 (by decide)
  obtain ⟨σ72, e_σ72, h⟩ := letv_e h
  have F := F.cp e_σ72 (by decide)
  obtain ⟨σ87, e_σ87, h⟩ := letv_e h
  have F := F.cp e_σ87 (by decide)
  obtain ⟨σ95, e_σ95, h⟩ := letv_e h
  have F := F.fI e_σ95 (by decide)
  obtain ⟨σ103, e_σ103, h⟩ := letv_e h
  have F := F.fI e_σ103 (by decide)
  obtain ⟨σ111, e_σ111, h⟩ := letv_e h
  have F := F.fI e_σ111 (by decide)
  obtain ⟨σ119, e_σ119, h⟩ := letv_e h
  have F := F.fI e_σ119 (by decide)
  cases h
  exact F
set_option maxHeartbeats 4000000 in
theorem fm_Sh_keep {σ : Mem} {r : Int32} {σ' : Mem} (h : f_Sh_keep σ = some (r, σ')) : Fr [27, 28, 29, 30, 31, 32] [(0, 6), (26, 6), (26, 7), (26, 8), (26, 9)] σ σ' := by
  have F := Fr.rf [27, 28, 29, 30, 31, 32] [(0, 6), (26, 6), (26, 7), (26, 8), (26, 9)] σ
  unfold f_Sh_keep at h
  obtain ⟨σ8, h1, h⟩ := bnd1_e h
  have F := F.c (fm_To_copyFrom_b h1) (by decide) (by decide)
  obtain ⟨σ13, e_σ13, h⟩ := letv_e h
  have F := F.fI e_σ13 (by decide)
  obtain ⟨r23, h1, h⟩ := bnd1_e h
  cases h
  exact F
set_option maxHeartbeats 4000000 in
theorem fm_To_copyFrom {σ : Mem} {σ' : Mem} (h : f_To_copyFrom σ = some σ') : Fr [20, 21, 22, 23, 24, 25] [(19, 6), (19, 7), (19, 8), (19, 9)] σ σ' := by
  have F := Fr.rf [20, 21, 22, 23, 24, 25] [(19, 6), (19, 7), (19, 8), (19, 9)] σ
  unfold f_To_copyFrom at h
  obtain ⟨σ12, e_σ12, h⟩ := letv_e h
  have F := F.cp e_σ12 (by decide)
  obtain ⟨σ27, e_σ27, h⟩ := letv_e h
  have F := F.cp e_σ27 (by decide)
  obtain ⟨σ42, e_σ42, h⟩ := letv_e h
  have F := F.cp e_σ42 (by decide)
  obtain ⟨σ57, e_σ57, h⟩ := letv_e h
  have F := F.cp e_σ57 (by decide)
  obtain ⟨σ72, e_σ72, h⟩ := letv_e h
  have F := F.cp e_σ72 (by decide)
  obtain ⟨σ87, e_σ87, h⟩ := letv_e h
  have F := F.cp e_σ87 (by decide)
  obtain ⟨σ95, e_σ95, h⟩ := letv_e h
  have F := F.fI e_σ95 (by decide)
  obtain ⟨σ103, e_σ103, h⟩ := letv_e h
  have F := F.fI e_σ103 (by decide)
  obtain ⟨σ111, e_σ111, h⟩ := letv_e h
  have F := F.fI e_σ111 (by decide)
  obtain ⟨σ119, e_σ119, h⟩ := letv_e h
  have F := F.fI e_σ119 (by decide)
  cases h
  exact F
