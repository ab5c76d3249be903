-- ===== the reference: the whole text =====
def MLw (σ : Mem) (c : Nat) : List Cl → Prop
  | [] => True
  | cl :: r => MK σ r.length cl c ∧ MLw σ c r
theorem MLw.k {σ σ' : Mem} {c c' : Nat} : ∀ {cs : List Cl} {m : Nat}, MLw σ c cs → cs.length ≤ m → (∀ i, i < m → mI σ' 75 i = mI σ 75 i ∧ mI σ' 76 i = mI σ 76 i ∧ mI σ' 77 i = mI σ 77 i ∧ mI σ' 78 i = mI σ 78 i) → c ≤ c' → (∀ j, j < c → mI σ' 73 j = mI σ 73 j) → MLw σ' c' cs := by
  intro cs
  induction cs with
  | nil => intro m _ _ _ _ _; exact True.intro
  | cons cl r ih =>
    intro m h hm hr hc hk
    rw [List.length_cons] at hm
    have h3 := hr r.length (by omega)
    exact ⟨h.1.k h3.1 h3.2.1 h3.2.2.1 h3.2.2.2 hc hk, ih h.2 (by omega) hr hc hk⟩
theorem MLw.at {σ : Mem} {c : Nat} : ∀ {cs : List Cl}, MLw σ c cs → ∀ q, q < cs.length → MK σ q (nthB cs q) c := by
  intro cs
  induction cs with
  | nil => intro _ q hq; exact absurd hq (Nat.not_lt_zero q)
  | cons cl r ih =>
    intro h q hq
    rw [List.length_cons] at hq
    unfold nthB
    by_cases e : q = r.length
    · rw [if_pos e, e]
      exact h.1
    · rw [if_neg e]
      exact ih h.2 q (by omega)
def FW (σ σ' : Mem) : Prop := Fr [73, 74, 75, 76, 77, 78] [(65, 12), (65, 14), (65, 15), (65, 16), (65, 17), (65, 18), (65, 19)] σ σ'
def VOut (R : Option (Int32 × Mem)) (σ : Mem) (o : LwO) : Prop := match o with
  | .inl (k, q) => ∃ σ', R = some (0, σ') ∧ mI σ' 65 14 = (-1000) * nI k - nI q ∧ FW σ σ'
  | .inr cs => ∃ σ' c, R = some (1, σ') ∧ mI σ' 65 18 = nI cs.length ∧ mI σ' 65 16 = nI c ∧ c ≤ 240 ∧ MLw σ' c cs ∧ FW σ σ'
theorem VOut.t {R R0 : Option (Int32 × Mem)} {σ σ0 : Mem} {o : LwO} (h : VOut R σ o) (e : R0 = R) (F : FW σ0 σ) : VOut R0 σ0 o := by
  match o, h with
  | .inl (k, q), h =>
    obtain ⟨σ', a1, a2, a3⟩ := h
    exact ⟨σ', e.trans a1, a2, Fr.t F a3⟩
  | .inr cs, h =>
    obtain ⟨σ', c, a1, a2, a3, a4, a5, a6⟩ := h
    exact ⟨σ', c, e.trans a1, a2, a3, a4, a5, Fr.t F a6⟩
def RSim (N n : Nat) (tx : Nat → Int32) : LWT := fun cs p o => ∀ (σ : Mem) (c k : Nat), MS0 n tx σ p c → c ≤ p → mI σ 65 18 = nI cs.length → cs.length ≤ 16 → MLw σ c cs → n - p + 1 < k → VOut (bnd2 (f_Mo_readsClause N σ) fun r s => L_Mo_law_l46 N k r s) σ o
theorem clause01 {N : Nat} {σ : Mem} {r : Int32} {s : Mem} (h : f_Mo_readsClause N σ = some (r, s)) : r = 0 ∨ r = 1 := by
  unfold f_Mo_readsClause at h
  obtain ⟨r1, h1, h⟩ := bnd1_e h
  obtain ⟨r6, h2, h⟩ := bnd1_e h
  obtain ⟨sb, h3, h⟩ := bnd1_e h
  obtain ⟨t, σb⟩ := sb
  have h := q2_e h
  have hw : ∀ (kI : Int32), (bnd2 (f_Mo_wrongAt σb kI (mI σb 65 12)) fun r37 σ37 => grd (decide (r37 &&& 1 = r37)) (some (r37, σ37))) = some (r, s) → r = 0 := by
    intro kI hh
    have e : (bnd2 (f_Mo_wrongAt σb kI (mI σb 65 12)) fun r37 σ37 => grd (decide (r37 &&& 1 = r37)) (some (r37, σ37))) = some (0, sI σb 65 14 ((-1000) * kI - mI σb 65 12)) := rfl
    rw [e] at hh
    injection hh with hh
    injection hh with hh _
    exact hh.symm
  rcases ite_or h with h | h
  · have h := (grd_e h).2
    obtain ⟨v, -, h⟩ := letv_e h
    obtain ⟨r2, s2, -, h⟩ := bnd2_e h
    rcases ite_or h with h | h
    · injection h with h
      injection h with h _
      exact Or.inl h.symm
    · have h := (grd_e h).2
      obtain ⟨v, -, h⟩ := letv_e h
      obtain ⟨v, -, h⟩ := letv_e h
      injection h with h
      injection h with h _
      exact Or.inr h.symm
  · rcases ite_or h with h | h
    · injection h with h
      injection h with h _
      exact Or.inl h.symm
    · rcases ite_or h with h | h
      · exact Or.inl (hw 4 h)
      · exact Or.inl (hw 1 h)
theorem l46_stop {N k : Nat} {σ : Mem} : L_Mo_law_l46 N (k + 1) 0 σ = some (0, σ) := by
  show B_Mo_law_l46 N _ _ σ = _
  unfold B_Mo_law_l46
  rw [if_pos rfl]
theorem l46_end {N k : Nat} {σ : Mem} (h : mI σ 65 13 ≤ mI σ 65 12) : L_Mo_law_l46 N (k + 1) 1 σ = some (1, σ) := by
  show B_Mo_law_l46 N _ _ σ = _
  unfold B_Mo_law_l46
  rw [if_neg ne10, if_pos h]
theorem l46_bad {N k : Nat} {σ σ1 : Mem} (h : ¬ mI σ 65 13 ≤ mI σ 65 12) (e : f_Mo_takes σ 59 = some (0, σ1)) : L_Mo_law_l46 N (k + 1) 1 σ = L_Mo_law_l46 N k 0 σ1 := by
  show B_Mo_law_l46 N _ _ σ = _
  unfold B_Mo_law_l46
  rw [if_neg ne10, if_neg h, e]
  simp only [bnd2_n, if_true, bnd1_n, q2_n]
theorem l46_go {N k : Nat} {σ σ1 : Mem} (h : ¬ mI σ 65 13 ≤ mI σ 65 12) (e : f_Mo_takes σ 59 = some (1, σ1)) : L_Mo_law_l46 N (k + 1) 1 σ = bnd2 (f_Mo_readsClause N σ1) fun r s => L_Mo_law_l46 N k r s := by
  show B_Mo_law_l46 N _ _ σ = _
  unfold B_Mo_law_l46
  rw [if_neg ne10, if_neg h, e]
  simp only [bnd2_n, if_neg ne10]
  cases hx : f_Mo_readsClause N σ1 with
  | none => rfl
  | some z =>
    obtain ⟨r, s⟩ := z
    rcases clause01 hx with rfl | rfl
    · simp only [bnd2_n, if_true, bnd1_n, q2_n]
    · simp only [bnd2_n, if_neg ne10, bnd1_n, q2_n, if_neg (show ¬ (1 = 0) by decide)]
section SimW
variable {N n : Nat} {tx : Nat → Int32}
theorem mo_takes (hT : TX n tx) {σ : Mem} {W : List (Nat × Nat)} {d p c : Nat} (h : MS n tx σ W d p c) : (tx p = 59 ∧ ∃ σ', f_Mo_takes σ 59 = some (1, σ') ∧ MS n tx σ' W d (p + 1) c) ∨ (tx p ≠ 59 ∧ ∃ σ', f_Mo_takes σ 59 = some (0, σ') ∧ mI σ' 65 14 = (-1000) * nI 1 - nI p) := by
  unfold f_Mo_takes
  rw [mo_here hT h]
  simp only [bnd1_n]
  by_cases e : tx p = 59
  · obtain ⟨σ', a1, a2, a3⟩ := h.adv (hT.lt (by rw [e]; decide))
    refine Or.inl ⟨e, σ', ?_, a2⟩
    rw [if_pos e, letv_n, a1]
  · obtain ⟨σ', w1, w2⟩ := mo_wr h.1 1 1 rfl
    refine Or.inr ⟨e, σ', ?_, w2⟩
    rw [if_neg e]
    exact w1
theorem rsim_clo (hN : 1000 < N) (hT : TX n tx) : CloL tx n (SimM N n tx) (RSim N n tx) := by
  have hn := hT.1
  have hF : ∀ {σ σ' : Mem} {r : Int32}, f_Mo_readsClause N σ = some (r, σ') → FW σ σ' := fun e => fm_Mo_readsClause e
  refine ⟨?_, ?_, ?_, ?_⟩
  · intro cs p b R σ c k h hc hm hl hC hk
    obtain ⟨kk, q⟩ := b
    obtain ⟨k, rfl⟩ : ∃ z, k = z + 1 := ⟨k - 1, by omega⟩
    obtain ⟨σ', b1, b2⟩ := mo_clause hN hT R h hc hm hl
    refine ⟨σ', ?_, b2, hF b1⟩
    rw [b1]
    simp only [bnd2_n]
    exact l46_stop
  · intro cs p r cl R e σ c k h hc hm hl hC hk
    obtain ⟨k, rfl⟩ : ∃ z, k = z + 1 := ⟨k - 1, by omega⟩
    obtain ⟨σ', c', b1, b2, b3, b4, b5, b6, b7, b8, b9, d1⟩ := mo_clause hN hT R h hc hm hl
    refine ⟨σ', c', ?_, by rw [List.length_cons]; exact b5, b2.2.2.2.2.1, by omega, ⟨d1, hC.k (Nat.le_refl _) b9 b7 b8⟩, hF b1⟩
    rw [b1]
    simp only [bnd2_n]
    exact l46_end (by rw [b2.1, b2.2.1, e]; exact nI_le (Nat.le_refl _) (by omega))
  · intro cs p r cl R e y σ c k h hc hm hl hC hk
    obtain ⟨σ', c', b1, b2, b3, b4, b5, b6, b7, b8, b9, d1⟩ := mo_clause hN hT R h hc hm hl
    have hrn : r ≤ n := b2.2.2.2.2.2.2.2
    obtain ⟨k, rfl⟩ : ∃ z, k = z + 1 + 1 := ⟨k - 2, by omega⟩
    rcases mo_takes hT b2 with ⟨z, -⟩ | ⟨-, σ2, t1, t2⟩
    · exact absurd z y
    · refine ⟨σ2, ?_, t2, Fr.t (hF b1) ((fm_Mo_takes t1).mono (by decide) (by decide))⟩
      rw [b1]
      simp only [bnd2_n]
      rw [l46_bad (by rw [b2.1, b2.2.1]; exact nI_ge (by omega) (by omega)) t1]
      exact l46_stop
  · intro cs p r cl o R e y IH σ c k h hc hm hl hC hk
    obtain ⟨σ', c', b1, b2, b3, b4, b5, b6, b7, b8, b9, d1⟩ := mo_clause hN hT R h hc hm hl
    have hrn : r ≤ n := b2.2.2.2.2.2.2.2
    obtain ⟨k, rfl⟩ : ∃ z, k = z + 1 := ⟨k - 1, by omega⟩
    rcases mo_takes hT b2 with ⟨-, σ2, t1, t2⟩ | ⟨z, -⟩
    · have F2 := fm_Mo_takes t1
      have hC2 : MLw σ2 c' (cl :: cs) := MLw.k (σ := σ') (cs := cl :: cs) (m := 16) ⟨d1, hC.k (Nat.le_refl _) b9 b7 b8⟩ (by rw [List.length_cons]; omega) (fun i _ => ⟨F2.I 75 i (by decide) (by simp), F2.I 76 i (by decide) (by simp), F2.I 77 i (by decide) (by simp), F2.I 78 i (by decide) (by simp)⟩) (Nat.le_refl _) (fun j _ => F2.I 73 j (by decide) (by simp))
      have V := IH σ2 c' k t2.z (by omega) (by rw [F2.I 65 18 (by decide) (by decide), List.length_cons]; exact b5) (by rw [List.length_cons]; omega) hC2 (by omega)
      refine V.t ?_ (Fr.t (hF b1) (F2.mono (by decide) (by decide)))
      rw [b1]
      simp only [bnd2_n]
      exact l46_go (by rw [b2.1, b2.2.1]; exact nI_ge (by omega) (by omega)) t1
    · exact absurd y z
end SimW
-- copies
theorem mo_l110 {N c : Nat} (hc : c ≤ 240) : ∀ (r k i : Nat) (σ : Mem), i + r = c → r < k → mI σ 65 16 = nI c → ∃ σ', L_Mo_law_l110 N k (nI i) σ = some σ' ∧ (∀ j, i ≤ j → j < c → mI σ' 79 j = mI σ 73 j) ∧ (∀ j, j < i → mI σ' 79 j = mI σ 79 j) ∧ Fr [79] [] σ σ' := by
  intro r
  induction r with
  | zero =>
    intro k i σ e hk h
    obtain ⟨k, rfl⟩ : ∃ z, k = z + 1 := ⟨k - 1, by omega⟩
    refine ⟨σ, ?_, fun j h1 h2 => by omega, fun j _ => rfl, Fr.rf _ _ _⟩
    show B_Mo_law_l110 N _ _ σ = _
    unfold B_Mo_law_l110
    rw [h, if_pos (nI_le (by omega) (by omega))]
  | succ r ih =>
    intro k i σ e hk h
    obtain ⟨k, rfl⟩ : ∃ z, k = z + 1 := ⟨k - 1, by omega⟩
    obtain ⟨σ', a1, a2, a3, a4⟩ := ih k (i + 1) (sI σ 79 i (mI σ 73 i)) (by omega) (by omega) (by rw [mI_sIn _ _ _ (by decide)]; exact h)
    refine ⟨σ', ?_, fun j h1 h2 => ?_, fun j hj => ?_, (frA _ _ _ _).t a4⟩
    · rw [← a1]
      show B_Mo_law_l110 N _ _ σ = _
      unfold B_Mo_law_l110
      rw [h, if_neg (nI_ge (by omega) (by omega)), grd_t (inb_j (by omega) (by decide)), grd_t (inb_j (by omega) (by decide)), letv_n, nI_clamp (by omega), letv_n, nI_1]
    · rcases (show i + 1 ≤ j ∨ j = i by omega) with z | rfl
      · rw [a2 j z h2, mI_sIn _ _ _ (by decide)]
      · rw [a3 j (by omega), sI_s]
    · rw [a3 j (by omega), sI_n _ _ (by omega)]
theorem mo_l138 {N m : Nat} (hm : m ≤ 16) : ∀ (r k i : Nat) (σ : Mem), i + r = m → r < k → mI σ 65 18 = nI m → ∃ σ', L_Mo_law_l138 N k (nI i) σ = some (nI m, σ') ∧ (∀ j, i ≤ j → j < m → mI σ' 80 j = mI σ 75 j ∧ mI σ' 81 j = mI σ 76 j ∧ mI σ' 82 j = mI σ 77 j ∧ mI σ' 83 j = mI σ 78 j) ∧ (∀ j, j < i → mI σ' 80 j = mI σ 80 j ∧ mI σ' 81 j = mI σ 81 j ∧ mI σ' 82 j = mI σ 82 j ∧ mI σ' 83 j = mI σ 83 j) ∧ Fr [80, 81, 82, 83] [] σ σ' := by
  intro r
  induction r with
  | zero =>
    intro k i σ e hk h
    obtain ⟨k, rfl⟩ : ∃ z, k = z + 1 := ⟨k - 1, by omega⟩
    refine ⟨σ, ?_, fun j h1 h2 => by omega, fun j _ => ⟨rfl, rfl, rfl, rfl⟩, Fr.rf _ _ _⟩
    show B_Mo_law_l138 N _ _ σ = _
    unfold B_Mo_law_l138
    rw [h, if_pos (nI_le (by omega) (by omega))]
  | succ r ih =>
    intro k i σ e hk h
    obtain ⟨k, rfl⟩ : ∃ z, k = z + 1 := ⟨k - 1, by omega⟩
    have F : Fr [80, 81, 82, 83] [] σ (sI (sI (sI (sI σ 80 i (mI σ 75 i)) 81 i (mI σ 76 i)) 82 i (mI σ 77 i)) 83 i (mI σ 78 i)) := ((((Fr.rf [80, 81, 82, 83] [] σ).aI (σ2 := sI σ 80 i (mI σ 75 i)) rfl (by decide)).aI (σ2 := sI (sI σ 80 i (mI σ 75 i)) 81 i (mI σ 76 i)) rfl (by decide)).aI (σ2 := sI (sI (sI σ 80 i (mI σ 75 i)) 81 i (mI σ 76 i)) 82 i (mI σ 77 i)) rfl (by decide)).aI rfl (by decide)
    obtain ⟨σ', a1, a2, a3, a4⟩ := ih k (i + 1) _ (by omega) (by omega) ((F.I 65 18 (by decide) (by simp)).trans h)
    have g80 : ∀ j, mI (sI (sI (sI (sI σ 80 i (mI σ 75 i)) 81 i (mI σ 76 i)) 82 i (mI σ 77 i)) 83 i (mI σ 78 i)) 80 j = up1 (mI σ 80) i (mI σ 75 i) j := fun j => by rw [mI_sIn _ _ _ (by decide), mI_sIn _ _ _ (by decide), mI_sIn _ _ _ (by decide), mI_sI]
    have g81 : ∀ j, mI (sI (sI (sI (sI σ 80 i (mI σ 75 i)) 81 i (mI σ 76 i)) 82 i (mI σ 77 i)) 83 i (mI σ 78 i)) 81 j = up1 (mI σ 81) i (mI σ 76 i) j := fun j => by rw [mI_sIn _ _ _ (by decide), mI_sIn _ _ _ (by decide), mI_sI, mI_sIn _ _ _ (by decide)]
    have g82 : ∀ j, mI (sI (sI (sI (sI σ 80 i (mI σ 75 i)) 81 i (mI σ 76 i)) 82 i (mI σ 77 i)) 83 i (mI σ 78 i)) 82 j = up1 (mI σ 82) i (mI σ 77 i) j := fun j => by rw [mI_sIn _ _ _ (by decide), mI_sI, mI_sIn _ _ _ (by decide), mI_sIn _ _ _ (by decide)]
    have g83 : ∀ j, mI (sI (sI (sI (sI σ 80 i (mI σ 75 i)) 81 i (mI σ 76 i)) 82 i (mI σ 77 i)) 83 i (mI σ 78 i)) 83 j = up1 (mI σ 83) i (mI σ 78 i) j := fun j => by rw [mI_sI, mI_sIn _ _ _ (by decide), mI_sIn _ _ _ (by decide), mI_sIn _ _ _ (by decide)]
    refine ⟨σ', ?_, fun j h1 h2 => ?_, fun j hj => ?_, F.t a4⟩
    · rw [← a1]
      show B_Mo_law_l138 N _ _ σ = _
      unfold B_Mo_law_l138
      have w1 : mI (sI σ 80 i (mI σ 75 i)) 76 i = mI σ 76 i := by rw [mI_sIn _ _ _ (by decide)]
      have w2 : mI (sI (sI σ 80 i (mI σ 75 i)) 81 i (mI σ 76 i)) 77 i = mI σ 77 i := by rw [mI_sIn _ _ _ (by decide), mI_sIn _ _ _ (by decide)]
      have w3 : mI (sI (sI (sI σ 80 i (mI σ 75 i)) 81 i (mI σ 76 i)) 82 i (mI σ 77 i)) 78 i = mI σ 78 i := by rw [mI_sIn _ _ _ (by decide), mI_sIn _ _ _ (by decide), mI_sIn _ _ _ (by decide)]
      rw [h, if_neg (nI_ge (by omega) (by omega)), grd_t (inb_j (by omega) (by decide)), grd_t (inb_j (by omega) (by decide)), letv_n, grd_t (inb_j (by omega) (by decide)), grd_t (inb_j (by omega) (by decide)), letv_n, grd_t (inb_j (by omega) (by decide)), grd_t (inb_j (by omega) (by decide)), letv_n, grd_t (inb_j (by omega) (by decide)), grd_t (inb_j (by omega) (by decide)), letv_n, letv_n, nI_clamp (by omega), nI_1, w1, w2, w3]
    · rcases (show i + 1 ≤ j ∨ j = i by omega) with z | rfl
      · obtain ⟨q1, q2, q3, q4⟩ := a2 j z h2
        rw [q1, q2, q3, q4]
        exact ⟨F.I 75 j (by decide) (by simp), F.I 76 j (by decide) (by simp), F.I 77 j (by decide) (by simp), F.I 78 j (by decide) (by simp)⟩
      · obtain ⟨q1, q2, q3, q4⟩ := a3 j (by omega)
        rw [q1, q2, q3, q4, g80, g81, g82, g83, up1_s, up1_s, up1_s, up1_s]
        exact ⟨rfl, rfl, rfl, rfl⟩
    · obtain ⟨q1, q2, q3, q4⟩ := a3 j (by omega)
      rw [q1, q2, q3, q4, g80, g81, g82, g83, up1_n _ _ (by omega), up1_n _ _ (by omega), up1_n _ _ (by omega), up1_n _ _ (by omega)]
      exact ⟨rfl, rfl, rfl, rfl⟩
