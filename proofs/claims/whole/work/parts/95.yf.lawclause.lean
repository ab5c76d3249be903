-- ===== clauses and laws, by the grammar =====
abbrev Cl : Type := Int32 × DN × DN
abbrev ClO : Type := (Nat × Nat) ⊕ (Nat × Cl)
abbrev LwO : Type := (Nat × Nat) ⊕ List Cl
def lftC (l : Int32) (v : DN) (o : Out) : ClO := match o with
  | .inl b => .inl b
  | .inr (r, g) => .inr (r, (l, v, g))
def RCond (tx : Nat → Int32) (M : MT) (q : Nat) (o : Out) : Prop := (tx q ≠ 40 ∧ o = .inl (1, q)) ∨ (tx q = 40 ∧ ∃ b, M 0 (lcst 0) 1 (q + 1) (.inl b) ∧ o = .inl b) ∨ (tx q = 40 ∧ ∃ r g, M 0 (lcst 0) 1 (q + 1) (.inr (r, g)) ∧ tx r ≠ 41 ∧ o = .inl (1, r)) ∨ (tx q = 40 ∧ ∃ r g, M 0 (lcst 0) 1 (q + 1) (.inr (r, g)) ∧ tx r = 41 ∧ o = .inr (r + 1, g))
def RCl (tx : Nat → Int32) (M : MT) (m p : Nat) (oc : ClO) : Prop := (¬ isCl (tx p) ∧ oc = .inl (1, p)) ∨ (isCl (tx p) ∧ 16 ≤ m ∧ oc = .inl (4, p)) ∨ (isCl (tx p) ∧ m < 16 ∧ tx p = 117 ∧ ∃ o, RCond tx M (p + 1) o ∧ oc = lftC (tx p) nul o) ∨ (isCl (tx p) ∧ m < 16 ∧ tx p ≠ 117 ∧ ∃ b, M 3 nul 0 (p + 1) (.inl b) ∧ oc = .inl b) ∨ (isCl (tx p) ∧ m < 16 ∧ tx p ≠ 117 ∧ ∃ q v, M 3 nul 0 (p + 1) (.inr (q, v)) ∧ ∃ o, RCond tx M q o ∧ oc = lftC (tx p) v o)
abbrev LWT : Type := List Cl → Nat → LwO → Prop
def CloL (tx : Nat → Int32) (n : Nat) (M : MT) (LW : LWT) : Prop :=
  (∀ cs p b, RCl tx M cs.length p (.inl b) → LW cs p (.inl b)) ∧
  (∀ cs p r cl, RCl tx M cs.length p (.inr (r, cl)) → r = n → LW cs p (.inr (cl :: cs))) ∧
  (∀ cs p r cl, RCl tx M cs.length p (.inr (r, cl)) → r ≠ n → tx r ≠ 59 → LW cs p (.inl (1, r))) ∧
  (∀ cs p r cl o, RCl tx M cs.length p (.inr (r, cl)) → r ≠ n → tx r = 59 → LW (cl :: cs) (r + 1) o → LW cs p o)
def nthB : List Cl → Nat → Cl
  | [], _ => (0, nul, nul)
  | cl :: r, q => if q = r.length then cl else nthB r q
-- ===== the class: a clause =====
def CK (σ : Mem) (i : Nat) (cl : Cl) (c : Nat) : Prop := mI σ 12 i = cl.1 ∧ (∃ s e, mI σ 14 i = nI s ∧ e < c ∧ s ≤ e ∧ SemX DC (mI σ 11) s e (hh 0 1) cl.2.2 ∧ mI σ 11 e = 0) ∧ (cl.1 ≠ 117 → ∃ s e, mI σ 13 i = nI s ∧ e < c ∧ s ≤ e ∧ SemX DC (mI σ 11) s e (hh 3 0) cl.2.1 ∧ mI σ 11 e = 0) ∧ B01 cl.2.2
theorem CK.k {σ σ' : Mem} {i : Nat} {cl : Cl} {c c' : Nat} (h : CK σ i cl c) (h12 : mI σ' 12 i = mI σ 12 i) (h13 : mI σ' 13 i = mI σ 13 i) (h14 : mI σ' 14 i = mI σ 14 i) (hc : c ≤ c') (hk : ∀ j, j < c → mI σ' 11 j = mI σ 11 j) : CK σ' i cl c' := by
  obtain ⟨h1, ⟨s, e, a1, a2, a3, a4, a5⟩, h3, h4⟩ := h
  refine ⟨h12.trans h1, ⟨s, e, h14.trans a1, by omega, a3, a4.k (fun j _ hj => hk j (by omega)), (hk e a2).trans a5⟩, fun z => ?_, h4⟩
  obtain ⟨s, e, a1, a2, a3, a4, a5⟩ := h3 z
  exact ⟨s, e, h13.trans a1, by omega, a3, a4.k (fun j _ hj => hk j (by omega)), (hk e a2).trans a5⟩
def CondC (N : Nat) (σ84 : Mem) : Option (Int32 × Mem) :=
  bnd2 (f_Rd_step σ84 40) fun r90 σ90 =>
  if r90 = 0 then
    (some (0, σ90))
  else
    (bnd2 (fr_Rd_readParts N σ90 1) fun r98 σ98 =>
    if r98 = 0 then
      (some (0, σ98))
    else
      (bnd2 (f_Rd_step σ98 41) fun r107 σ107 =>
      if r107 = 0 then
        (some (0, σ107))
      else
        (bnd1 (f_La_put_b σ107 0) fun σ120 =>
        bnd1 (f_La_endClause_b σ120) fun σ127 =>
        some (1, σ127))))
theorem CS.fr2 {n : Nat} {tx : Nat → Int32} {σ σ' : Mem} {p c : Nat} (h : CS n tx σ p c) (F : Fr [12, 13, 14] [(10, 5)] σ σ') : CS n tx σ' p c := by
  obtain ⟨h1, h2, h3, h4, h5, h6⟩ := h
  exact ⟨by rw [F.I 17 4 (by decide) (by decide)]; exact h1, by rw [F.I 17 3 (by decide) (by decide)]; exact h2, fun j hj => by rw [F.I 18 j (by decide) (by simp)]; exact h3 j hj, by rw [F.I 10 1 (by decide) (by decide)]; exact h4, h5, h6⟩
theorem cl_cond {N n : Nat} {tx : Nat → Int32} {M : MT} (hN : 1000 < N) (hT : TX n tx) (hM : Clo tx M) {σ : Mem} {q c m : Nat} (h : CS n tx σ q c) (hm : mI σ 10 5 = nI m) : ∃ o, RCond tx M q o ∧ match o with
  | .inl (k, r) => ∃ σ', CondC N σ = some (0, σ') ∧ FT n σ' k r
  | .inr (r, g) => ∃ σ' c', CondC N σ = some (1, σ') ∧ CS n tx σ' r (c' + 1) ∧ mI σ' 10 5 = nI (m + 1) ∧ mI σ' 11 c' = 0 ∧ c ≤ c' ∧ q < r ∧ (∀ j, j < c → mI σ' 11 j = mI σ 11 j) ∧ SemX DC (mI σ' 11) c c' (hh 0 1) g ∧ B01 g := by
  have hn := hT.1
  have hc2 : c ≤ 2 * q := h.2.2.2.2.2
  unfold CondC
  rcases rd_step hT h (ch := 40) (by decide) with ⟨y, σ1, s1, s2, s3⟩ | ⟨y, σ1, s1, s2⟩
  · rw [s1]
    simp only [bnd2_n, if_neg ne10]
    obtain ⟨o, b1, b2⟩ := cl_rd hN hT hM 40 0 1 (by decide) (by decide) (by decide) σ1 (q + 1) c s2
    have b1 : M 0 (lcst 0) 1 (q + 1) o := b1
    have e0 : rd N 40 0 σ1 (nI 1) = fr_Rd_readParts N σ1 1 := rfl
    rw [e0] at b2
    match o, b1, b2 with
    | .inl (k, r), b1, b2 =>
      obtain ⟨σ2, g1, g2⟩ := b2
      refine ⟨.inl (k, r), Or.inr (Or.inl ⟨y, (k, r), b1, rfl⟩), σ2, ?_, g2⟩
      rw [g1]
      simp only [bnd2_n, if_true]
    | .inr (r, g), b1, b2 =>
      obtain ⟨σ2, c2, g1, g2, g3, g4, g5, g6, g7, g8⟩ := b2
      have F2 := fmr_Rd_readParts g1
      rw [g1]
      simp only [bnd2_n, if_neg ne10]
      rcases rd_step hT g2 (ch := 41) (by decide) with ⟨y2, σ3, t1, t2, t3⟩ | ⟨y2, σ3, t1, t2⟩
      · have F1 := fm_Rd_step s1
        have F3 := fm_Rd_step t1
        rw [t1]
        simp only [bnd2_n, if_neg ne10]
        obtain ⟨σ4, f1, f2, f3⟩ := t2.put hT (by omega) 0
        have F4 := fm_La_put_b f1
        rw [f1]
        simp only [bnd1_n]
        have e5 : mI σ4 10 5 = nI m := by
          rw [F4.I 10 5 (by decide) (by decide), F3.I 10 5 (by decide) (by decide), F2.I 10 5 (by decide) (by decide), F1.I 10 5 (by decide) (by decide)]
          exact hm
        have he : f_La_endClause_b σ4 = some (sI σ4 10 5 (mI σ4 10 5 + 1)) := rfl
        rw [he]
        simp only [bnd1_n]
        refine ⟨.inr (r + 1, g), Or.inr (Or.inr (Or.inr ⟨y, r, g, b1, y2, rfl⟩)), sI σ4 10 5 (mI σ4 10 5 + 1), c2, rfl, f2.fr2 ((frI _ _ _ _).mono (by simp) (by simp)), ?_, ?_, by omega, by omega, fun j hj => ?_, ?_, g8 (by decide)⟩
        · rw [sI_s, e5, nI_1]
        · rw [mI_sIn _ _ _ (by decide), f3, up1_s]
        · rw [mI_sIn _ _ _ (by decide), f3, up1_n _ _ (by omega), t3, g6 j hj, s3]
        · exact g7.k (fun j h1 h2 => by rw [mI_sIn _ _ _ (by decide), f3, up1_n _ _ (by omega), t3])
      · refine ⟨.inl (1, r), Or.inr (Or.inr (Or.inl ⟨y, r, g, b1, y2, rfl⟩)), σ3, ?_, t2⟩
        rw [t1]
        simp only [bnd2_n, if_true]
  · refine ⟨.inl (1, q), Or.inl ⟨y, rfl⟩, σ1, ?_, s2⟩
    rw [s1]
    simp only [bnd2_n, if_true]
theorem CondC.fr {N : Nat} {σ : Mem} {r : Int32} {σ' : Mem} (h : CondC N σ = some (r, σ')) : Fr [11] [(10, 1), (10, 5), (17, 4), (17, 5)] σ σ' := by
  unfold CondC at h
  obtain ⟨r1, σ1, h1, h⟩ := bnd2_e h
  have F := (fm_Rd_step h1).mono (ms := [11]) (fs := [(10, 1), (10, 5), (17, 4), (17, 5)]) (by decide) (by decide)
  rcases ite_or h with h | h
  · cases h; exact F
  obtain ⟨r2, σ2, h2, h⟩ := bnd2_e h
  have F := F.c (fmr_Rd_readParts h2) (by decide) (by decide)
  rcases ite_or h with h | h
  · cases h; exact F
  obtain ⟨r3, σ3, h3, h⟩ := bnd2_e h
  have F := F.c (fm_Rd_step h3) (by decide) (by decide)
  rcases ite_or h with h | h
  · cases h; exact F
  obtain ⟨σ4, h4, h⟩ := bnd1_e h
  have F := F.c (fm_La_put_b h4) (by decide) (by decide)
  obtain ⟨σ5, h5, h⟩ := bnd1_e h
  have F := F.c (fm_La_endClause_b h5) (by decide) (by decide)
  cases h
  exact F
theorem beg_c {σ : Mem} {m c : Nat} {l : Int32} (hm : mI σ 10 5 = nI m) (hm16 : m < 16) (hc : mI σ 10 1 = nI c) : ∃ σ', f_La_beginClause_b σ l = some σ' ∧ mI σ' 12 = up1 (mI σ 12) m l ∧ mI σ' 13 = up1 (mI σ 13) m (nI c) ∧ mI σ' 14 = up1 (mI σ 14) m (nI c) ∧ Fr [12, 13, 14] [] σ σ' := by
  refine ⟨sI (sI (sI σ 12 m l) 13 m (nI c)) 14 m (nI c), ?_, ?_, ?_, ?_, ?_⟩
  · unfold f_La_beginClause_b
    rw [hm, if_neg (show ¬ (16 : Int32) ≤ nI m from nI_ge (b := 16) hm16 (by decide)), grd_t (inb_j hm16 (by decide)), letv_n, nI_clamp (by omega), mI_sIn _ _ _ (by decide), hm, grd_t (inb_j hm16 (by decide)), letv_n, nI_clamp (by omega), hc, mI_sIn _ _ _ (by decide), mI_sIn _ _ _ (by decide), hm, grd_t (inb_j hm16 (by decide)), letv_n, nI_clamp (by omega), hc]
  · rw [mI_sIn _ _ _ (by decide), mI_sIn _ _ _ (by decide), mI_sI]
  · rw [mI_sIn _ _ _ (by decide), mI_sI, mI_sIn _ _ _ (by decide)]
  · rw [mI_sI, mI_sIn _ _ _ (by decide), mI_sIn _ _ _ (by decide)]
  · exact (((Fr.rf [12, 13, 14] [] σ).aI (σ2 := sI σ 12 m l) rfl (by decide)).aI (σ2 := sI (sI σ 12 m l) 13 m (nI c)) rfl (by decide)).aI rfl (by decide)
theorem beg_d {σ : Mem} {m c : Nat} (hm : mI σ 10 5 = nI m) (hm16 : m < 16) (hc : mI σ 10 1 = nI c) : ∃ σ', f_La_beginCondition_b σ = some σ' ∧ mI σ' 14 = up1 (mI σ 14) m (nI c) ∧ Fr [14] [] σ σ' := by
  refine ⟨sI σ 14 m (nI c), ?_, by rw [mI_sI], frA _ _ _ _⟩
  unfold f_La_beginCondition_b
  rw [hm, if_neg (show ¬ (16 : Int32) ≤ nI m from nI_ge (b := 16) hm16 (by decide)), grd_t (inb_j hm16 (by decide)), letv_n, nI_clamp (by omega), hc]
def KOut (N n : Nat) (tx : Nat → Int32) (R : Option (Int32 × Mem)) (σ : Mem) (p c m : Nat) (oc : ClO) : Prop := match oc with
  | .inl (k, q) => ∃ σ', R = some (0, σ') ∧ FT n σ' k q
  | .inr (r, cl) => ∃ σ' c', R = some (1, σ') ∧ CS n tx σ' r c' ∧ m < 16 ∧ mI σ' 10 5 = nI (m + 1) ∧ p < r ∧ c ≤ c' ∧ (∀ j, j < c → mI σ' 11 j = mI σ 11 j) ∧ (∀ i, i < m → mI σ' 12 i = mI σ 12 i ∧ mI σ' 13 i = mI σ 13 i ∧ mI σ' 14 i = mI σ 14 i) ∧ CK σ' m cl c'
theorem cl_clause {N n : Nat} {tx : Nat → Int32} {M : MT} (hN : 1000 < N) (hT : TX n tx) (hM : Clo tx M) {σ : Mem} {p c m : Nat} (h : CS n tx σ p c) (hm : mI σ 10 5 = nI m) (hm16 : m ≤ 16) : ∃ oc, RCl tx M m p oc ∧ KOut N n tx (f_Rd_readClause N σ) σ p c m oc := by
  have hn := hT.1
  have hc2 : c ≤ 2 * p := h.2.2.2.2.2
  unfold f_Rd_readClause
  rcases one_s0 (N := N) (by omega) hT h with ⟨b1, b2⟩ | ⟨b1, b2⟩
  · rw [b1]
    simp only [bnd1_n, if_neg ne10]
    have hcl : f_La_clauses_b σ = some (nI m) := by unfold f_La_clauses_b; rw [hm]
    rw [hcl]
    simp only [bnd1_n]
    rcases Nat.lt_or_ge m 16 with z | z
    · rw [if_pos (show nI m < 16 from nI_lt (b := 16) z (by decide)), rd_sign hT h]
      simp only [bnd1_n]
      obtain ⟨σ1, a1, a2, a3⟩ := h.adv (hT.lt (fun e => by rw [e] at b2; exact absurd b2 (by decide)))
      rw [letv_n, a1]
      have hm1 : mI σ1 10 5 = nI m := by rw [← a1, mI_sIn _ _ _ (by decide)]; exact hm
      have F1 : Fr [] [(17, 4)] σ σ1 := by rw [← a1]; exact frI _ _ _ _
      obtain ⟨σ2, d1, d2, d3, d4, F2⟩ := beg_c (l := tx p) hm1 z a2.2.2.2.1
      rw [d1]
      simp only [bnd1_n]
      have C2 : CS n tx σ2 (p + 1) c := a2.fr2 (F2.mono (by decide) (by simp))
      have hm2 : mI σ2 10 5 = nI m := by rw [F2.I 10 5 (by decide) (by simp)]; exact hm1
      have e11 : mI σ2 11 = mI σ1 11 := F2.rowI 11 (by decide) (by simp)
      have r12 : mI σ1 12 = mI σ 12 := F1.rowI 12 (by decide) (by simp)
      have r13 : mI σ1 13 = mI σ 13 := F1.rowI 13 (by decide) (by simp)
      have r14 : mI σ1 14 = mI σ 14 := F1.rowI 14 (by decide) (by simp)
      by_cases eu : tx p = 117
      · rw [if_pos eu]
        obtain ⟨σ3, k1, k2, F3⟩ := beg_d hm2 z C2.2.2.2.1
        rw [k1]
        simp only [bnd1_n]
        have C3 : CS n tx σ3 (p + 1) c := C2.fr2 (F3.mono (by decide) (by simp))
        have hm3 : mI σ3 10 5 = nI m := by rw [F3.I 10 5 (by decide) (by simp)]; exact hm2
        have s11 : mI σ3 11 = mI σ 11 := by rw [F3.rowI 11 (by decide) (by simp), e11, a3]
        obtain ⟨o, q1, q2⟩ := cl_cond hN hT hM C3 hm3
        refine ⟨lftC (tx p) nul o, Or.inr (Or.inr (Or.inl ⟨b2, z, eu, o, q1, rfl⟩)), ?_⟩
        match o, q2 with
        | .inl (k, r), q2 => exact q2
        | .inr (r, g), q2 =>
          obtain ⟨σ4, c4, t1, t2, t3, t4, t5, t6, t7, t8, t9⟩ := q2
          have F4 := CondC.fr t1
          have u12 : mI σ4 12 = up1 (mI σ 12) m (tx p) := by rw [F4.rowI 12 (by decide) (by decide), F3.rowI 12 (by decide) (by simp), d2, r12]
          have u13 : mI σ4 13 = up1 (mI σ 13) m (nI c) := by rw [F4.rowI 13 (by decide) (by decide), F3.rowI 13 (by decide) (by simp), d3, r13]
          have u14 : mI σ4 14 = up1 (up1 (mI σ 14) m (nI c)) m (nI c) := by rw [F4.rowI 14 (by decide) (by decide), k2, d4, r14]
          refine ⟨σ4, c4 + 1, t1, t2, z, t3, by omega, by omega, fun j hj => (t7 j hj).trans (by rw [s11]), fun i hi => ⟨by rw [u12, up1_n _ _ (by omega)], by rw [u13, up1_n _ _ (by omega)], by rw [u14, up1_n _ _ (by omega), up1_n _ _ (by omega)]⟩, by rw [u12, up1_s], ⟨c, c4, by rw [u14, up1_s], by omega, t5, t8, t4⟩, fun zz => absurd eu zz, t9⟩
      · rw [if_neg eu]
        obtain ⟨o, q1, q2⟩ := cl_rd hN hT hM 40 3 0 (by decide) (by decide) (by decide) σ2 (p + 1) c C2
        have q1 : M 3 nul 0 (p + 1) o := q1
        have e0 : rd N 40 3 σ2 (nI 0) = fr_Rd_readSum N σ2 0 := rfl
        rw [e0] at q2
        match o, q1, q2 with
        | .inl (k, r), q1, q2 =>
          obtain ⟨σ3, g1, g2⟩ := q2
          refine ⟨.inl (k, r), Or.inr (Or.inr (Or.inr (Or.inl ⟨b2, z, eu, (k, r), q1, rfl⟩))), σ3, ?_, g2⟩
          rw [g1]
          simp only [bnd2_n, if_true]
        | .inr (q, v), q1, q2 =>
          obtain ⟨σ3, c3, g1, g2, g3, g4, g5, g6, g7, -⟩ := q2
          have F3 := fmr_Rd_readSum g1
          rw [g1]
          simp only [bnd2_n, if_neg ne10]
          obtain ⟨σ4, f1, f2, f3⟩ := g2.put hT (by omega) 0
          have F4 := fm_La_put_b f1
          rw [f1]
          simp only [bnd1_n]
          have hm4 : mI σ4 10 5 = nI m := by rw [F4.I 10 5 (by decide) (by decide), F3.I 10 5 (by decide) (by decide)]; exact hm2
          obtain ⟨σ5, k1, k2, F5⟩ := beg_d hm4 z f2.2.2.2.1
          rw [k1]
          simp only [bnd1_n]
          have C5 : CS n tx σ5 q (c3 + 1) := f2.fr2 (F5.mono (by decide) (by simp))
          have hm5 : mI σ5 10 5 = nI m := by rw [F5.I 10 5 (by decide) (by simp)]; exact hm4
          have s11 : mI σ5 11 = up1 (mI σ3 11) c3 0 := by rw [F5.rowI 11 (by decide) (by simp), f3]
          obtain ⟨o, w1, w2⟩ := cl_cond hN hT hM C5 hm5
          refine ⟨lftC (tx p) v o, Or.inr (Or.inr (Or.inr (Or.inr ⟨b2, z, eu, q, v, q1, o, w1, rfl⟩))), ?_⟩
          match o, w2 with
          | .inl (k, r), w2 => exact w2
          | .inr (r, g), w2 =>
            obtain ⟨σ6, c6, t1, t2, t3, t4, t5, t6, t7, t8, t9⟩ := w2
            have F6 := CondC.fr t1
            have u12 : mI σ6 12 = up1 (mI σ 12) m (tx p) := by rw [F6.rowI 12 (by decide) (by decide), F5.rowI 12 (by decide) (by simp), F4.rowI 12 (by decide) (by decide), F3.rowI 12 (by decide) (by decide), d2, r12]
            have u13 : mI σ6 13 = up1 (mI σ 13) m (nI c) := by rw [F6.rowI 13 (by decide) (by decide), F5.rowI 13 (by decide) (by simp), F4.rowI 13 (by decide) (by decide), F3.rowI 13 (by decide) (by decide), d3, r13]
            have u14 : mI σ6 14 = up1 (up1 (mI σ 14) m (nI c)) m (nI (c3 + 1)) := by rw [F6.rowI 14 (by decide) (by decide), k2, F4.rowI 14 (by decide) (by decide), F3.rowI 14 (by decide) (by decide), d4, r14]
            have v11 : ∀ j, j < c3 + 1 → mI σ6 11 j = up1 (mI σ3 11) c3 0 j := fun j hj => (t7 j hj).trans (by rw [s11])
            refine ⟨σ6, c6 + 1, t1, t2, z, t3, by omega, by omega, fun j hj => ?_, fun i hi => ⟨by rw [u12, up1_n _ _ (by omega)], by rw [u13, up1_n _ _ (by omega)], by rw [u14, up1_n _ _ (by omega), up1_n _ _ (by omega)]⟩, by rw [u12, up1_s], ⟨c3 + 1, c6, by rw [u14, up1_s], by omega, t5, t8, t4⟩, fun _ => ⟨c, c3, by rw [u13, up1_s], by omega, by omega, g7.k (fun j h1 h2 => by rw [v11 j (by omega), up1_n _ _ (by omega)]), by rw [v11 c3 (by omega), up1_s]⟩, t9⟩
            rw [v11 j (by omega), up1_n _ _ (by omega), g6 j hj, e11, a3]
    · rw [if_neg (show ¬ nI m < 16 from nI_nlt (b := 16) z (by omega))]
      obtain ⟨σ1, f1, f2⟩ := rd_fail h 4 (by decide)
      refine ⟨.inl (4, p), Or.inr (Or.inl ⟨b2, z, rfl⟩), σ1, ?_, f2⟩
      have f1 : f_Rd_fail σ 4 = some (0, σ1) := f1
      rw [f1]
      rfl
  · rw [b1]
    simp only [bnd1_n, if_true]
    obtain ⟨σ1, f1, f2⟩ := rd_fail h 1 (by decide)
    refine ⟨.inl (1, p), Or.inl ⟨b2, rfl⟩, σ1, ?_, f2⟩
    have f1 : f_Rd_fail σ 1 = some (0, σ1) := f1
    rw [f1]
    rfl
def CLw (σ : Mem) (c : Nat) : List Cl → Prop
  | [] => True
  | cl :: r => CK σ r.length cl c ∧ CLw σ c r
theorem CLw.k {σ σ' : Mem} {c c' : Nat} : ∀ {cs : List Cl} {m : Nat}, CLw σ c cs → cs.length ≤ m → (∀ i, i < m → mI σ' 12 i = mI σ 12 i ∧ mI σ' 13 i = mI σ 13 i ∧ mI σ' 14 i = mI σ 14 i) → c ≤ c' → (∀ j, j < c → mI σ' 11 j = mI σ 11 j) → CLw σ' c' cs := by
  intro cs
  induction cs with
  | nil => intro m _ _ _ _ _; exact True.intro
  | cons cl r ih =>
    intro m h hm hr hc hk
    rw [List.length_cons] at hm
    have h3 := hr r.length (by omega)
    exact ⟨h.1.k h3.1 h3.2.1 h3.2.2 hc hk, ih h.2 (by omega) hr hc hk⟩
theorem CLw.at {σ : Mem} {c : Nat} : ∀ {cs : List Cl}, CLw σ c cs → ∀ q, q < cs.length → CK σ q (nthB cs q) c := by
  intro cs
  induction cs with
  | nil => intro _ q hq; exact absurd hq (Nat.not_lt_zero q)
  | cons cl r ih =>
    intro h q hq
    rw [List.length_cons] at hq
    unfold nthB
    by_cases e : q = r.length
    · rw [if_pos e, e]
      exact h.1
    · rw [if_neg e]
      exact ih h.2 q (by omega)
def WOut (n : Nat) (tx : Nat → Int32) (R : Option (Int32 × Mem)) (o : LwO) : Prop := match o with
  | .inl (k, q) => ∃ σ', R = some (0, σ') ∧ FT n σ' k q
  | .inr cs => ∃ σ' c, R = some (1, σ') ∧ cs.length ≤ 16 ∧ mI σ' 10 5 = nI cs.length ∧ c ≤ 480 ∧ CLw σ' c cs
theorem cl_clauses {N n : Nat} {tx : Nat → Int32} {M : MT} {LW : LWT} (hN : 1000 < N) (hT : TX n tx) (hM : Clo tx M) (hL : CloL tx n M LW) : ∀ (r k i : Nat) (σ : Mem) (p c : Nat) (cs : List Cl), n - p ≤ r → r < k → i ≤ p → CS n tx σ p c → mI σ 10 5 = nI cs.length → cs.length ≤ 16 → CLw σ c cs → ∃ o, LW cs p o ∧ WOut n tx (L_Rd_readClauses_l2 N k (nI i) σ) o := by
  obtain ⟨l1, l2, l3, l4⟩ := hL
  have hn := hT.1
  intro r
  induction r with
  | zero =>
    intro k i σ p c cs hr hk hi h hm hl hC
    obtain ⟨k, rfl⟩ : ∃ z, k = z + 1 := ⟨k - 1, by omega⟩
    have hpn : p ≤ n := h.2.2.2.2.1
    obtain ⟨oc, a1, a2⟩ := cl_clause hN hT hM h hm hl
    match oc, a1, a2 with
    | .inl (kk, q), a1, a2 =>
      obtain ⟨σ1, b1, b2⟩ := a2
      refine ⟨.inl (kk, q), l1 cs p (kk, q) a1, σ1, ?_, b2⟩
      show B_Rd_readClauses_l2 N _ _ σ = _
      unfold B_Rd_readClauses_l2
      rw [if_neg (show ¬ (240 : Int32) < nI i from nI_nlt (a := 240) (by omega) (by decide)), b1]
      simp only [bnd2_n, if_true]
    | .inr (q, cl), a1, a2 =>
      obtain ⟨σ1, c1, b1, b2, b3, b4, b5, -⟩ := a2
      have := b2.2.2.2.2.1
      omega
  | succ r ih =>
    intro k i σ p c cs hr hk hi h hm hl hC
    obtain ⟨k, rfl⟩ : ∃ z, k = z + 1 := ⟨k - 1, by omega⟩
    have hpn : p ≤ n := h.2.2.2.2.1
    show ∃ o, LW cs p o ∧ WOut n tx (B_Rd_readClauses_l2 N (L_Rd_readClauses_l2 N k) (nI i) σ) o
    unfold B_Rd_readClauses_l2
    rw [if_neg (show ¬ (240 : Int32) < nI i from nI_nlt (a := 240) (by omega) (by decide))]
    obtain ⟨oc, a1, a2⟩ := cl_clause hN hT hM h hm hl
    match oc, a1, a2 with
    | .inl (kk, q), a1, a2 =>
      obtain ⟨σ1, b1, b2⟩ := a2
      refine ⟨.inl (kk, q), l1 cs p (kk, q) a1, σ1, ?_, b2⟩
      rw [b1]
      simp only [bnd2_n, if_true]
    | .inr (q, cl), a1, a2 =>
      obtain ⟨σ1, c1, b1, b2, b3, b4, b5, b6, b7, b8, b9⟩ := a2
      have hqn : q ≤ n := b2.2.2.2.2.1
      have hc1 : c1 ≤ 2 * q := b2.2.2.2.2.2
      rw [b1]
      simp only [bnd2_n, if_neg ne10]
      rw [b2.1, b2.2.1]
      have C1 : CLw σ1 c1 (cl :: cs) := ⟨b9, hC.k (Nat.le_refl _) b8 b6 b7⟩
      by_cases e : q = n
      · rw [if_pos (by rw [e])]
        exact ⟨.inr (cl :: cs), l2 cs p q cl a1 e, σ1, c1, rfl, by rw [List.length_cons]; omega, by rw [List.length_cons]; exact b4, by omega, C1⟩
      · rw [if_neg (fun z => e ((nI_eq (by omega) (by omega)).mp z))]
        rcases rd_step hT b2 (ch := 59) (by decide) with ⟨y, σ2, s1, s2, s3⟩ | ⟨y, σ2, s1, s2⟩
        · have F2 := fm_Rd_step s1
          rw [s1]
          simp only [bnd2_n, if_neg ne10]
          rw [letv_n, nI_1]
          obtain ⟨o, r1, r2⟩ := ih k (i + 1) σ2 (q + 1) c1 (cl :: cs) (by omega) (by omega) (by omega) s2 (by rw [F2.I 10 5 (by decide) (by decide), List.length_cons]; exact b4) (by rw [List.length_cons]; omega) (C1.k (m := 16) (by rw [List.length_cons]; omega) (fun i _ => ⟨F2.I 12 i (by decide) (by simp), F2.I 13 i (by decide) (by simp), F2.I 14 i (by decide) (by simp)⟩) (Nat.le_refl _) (fun j _ => by rw [s3]))
          exact ⟨o, l4 cs p q cl o a1 e y r1, r2⟩
        · refine ⟨.inl (1, q), l3 cs p q cl a1 e y, σ2, ?_, s2⟩
          rw [s1]
          simp only [bnd2_n, if_true]
