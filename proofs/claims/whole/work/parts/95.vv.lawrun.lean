-- ===== both machines go by the runs =====
def DC (cd : Nat → Int32) : LDX := fun pc i v nx => pc < 500 ∧ (
  (i = 0 ∧ cd pc = 1 ∧ cd (pc + 1) = v ∧ nx = pc + 2) ∨
  (i = 1 ∧ cd pc = 2 ∧ cd (pc + 1) = v ∧ nx = pc + 2) ∨
  (i = 2 ∧ cd pc = v ∧ (isMd v ∨ isPm v ∨ isCm v) ∧ nx = pc + 1) ∨
  (i = 3 ∧ cd pc = 5 ∧ nx = pc + 1) ∨
  (i = 4 ∧ cd pc = 3 ∧ cd (pc + 1) = v ∧ nx = pc + 2) ∨
  (i = 5 ∧ cd pc = 4 ∧ cd (pc + 1) = v ∧ nx = pc + 2))
/-- the sign of an operation of the reference -/
def chr (o : Nat) : Int32 := if o = 2 then 43 else if o = 3 then 45 else if o = 4 then 42 else if o = 5 then 47 else if o = 6 then 37 else if o = 7 then 60 else if o = 8 then 62 else 61
def DM (cd : Nat → Int32) : LDX := fun pc i v nx => pc < 250 ∧ nx = pc + 1 ∧ (
  (i = 0 ∧ ∃ k, k < 1048576 ∧ v = nI k ∧ cd pc = nI k) ∨
  (i = 1 ∧ ∃ j, j < 9 ∧ v = nI j ∧ cd pc = nI (1048576 * 1 + j)) ∨
  (i = 2 ∧ ∃ o, 2 ≤ o ∧ o ≤ 9 ∧ v = chr o ∧ cd pc = nI (1048576 * o + 0)) ∨
  (i = 3 ∧ cd pc = nI (1048576 * 10 + 0)) ∨
  (i = 4 ∧ ∃ t, t < 250 ∧ v = nI t ∧ cd pc = nI (1048576 * 11 + t)) ∨
  (i = 5 ∧ ∃ t, t < 250 ∧ v = nI t ∧ cd pc = nI (1048576 * 12 + t)))
def SS (f : Nat → Int32) : List Int32 → Prop
  | [] => True
  | v :: r => f r.length = v ∧ SS f r
theorem SS.up {f : Nat → Int32} {m : Nat} {x : Int32} : ∀ {st : List Int32}, SS f st → st.length ≤ m → SS (up1 f m x) st := by
  intro st
  induction st with
  | nil => intro _ _; exact True.intro
  | cons v r ih =>
    intro h hm
    rw [List.length_cons] at hm
    exact ⟨by rw [up1_n _ _ (by omega)]; exact h.1, ih h.2 (by omega)⟩
theorem SS.push {f : Nat → Int32} {x : Int32} {st : List Int32} (h : SS f st) : SS (up1 f st.length x) (x :: st) := ⟨up1_s _ _ _, h.up (Nat.le_refl _)⟩
section LaRun
variable {N k top pc step : Nat} {σ : Mem}
theorem la_num (h1 : step < 512) (h2 : pc < 500) (h3 : top < 32) (e : mI σ 4 pc = 1) : L_La_run_l7 N (k + 1) (nI top) (nI pc) (nI step) σ = L_La_run_l7 N k (nI (top + 1)) (nI (pc + 2)) (nI (step + 1)) (sI σ 9 top (mI σ 4 (pc + 1))) := by
  show B_La_run_l7 N _ _ _ _ σ = _
  unfold B_La_run_l7
  rw [if_neg (show ¬ (513 : Int32) ≤ nI step from nI_ge (b := 513) (by omega) (by decide)), if_neg (nI_pos (by omega)), nI_1, if_neg (show ¬ (513 : Int32) ≤ nI (pc + 1) from nI_ge (b := 513) (by omega) (by decide)), if_neg (show ¬ (32 : Int32) ≤ nI top from nI_ge (b := 32) (by omega) (by decide)), grd_t (inb_j (by omega) (by decide)), letv_n, grd_t (inb_j (by omega) (by decide)), letv_n, nI_clamp (by omega), nI_clamp (by omega), e]
  simp only [letv_n, if_true, bnd1_n, q3_n, if_neg (show ¬ (1 = 0) by decide)]
  rw [grd_t (inb_j h3 (by decide)), nI_clamp (by omega), nI_1, nI_1, show nI pc + 2 = nI (pc + 2) from nI_add pc 2]
theorem la_fact {j : Nat} (h1 : step < 512) (h2 : pc < 500) (h3 : top < 32) (e : mI σ 4 pc = 2) (hj : j < 9) (e2 : mI σ 4 (pc + 1) = nI j) : L_La_run_l7 N (k + 1) (nI top) (nI pc) (nI step) σ = L_La_run_l7 N k (nI (top + 1)) (nI (pc + 2)) (nI (step + 1)) (sI σ 9 top (mI σ 8 j)) := by
  show B_La_run_l7 N _ _ _ _ σ = _
  unfold B_La_run_l7
  rw [if_neg (show ¬ (513 : Int32) ≤ nI step from nI_ge (b := 513) (by omega) (by decide)), if_neg (nI_pos (by omega)), nI_1, if_neg (show ¬ (513 : Int32) ≤ nI (pc + 1) from nI_ge (b := 513) (by omega) (by decide)), if_neg (show ¬ (32 : Int32) ≤ nI top from nI_ge (b := 32) (by omega) (by decide)), grd_t (inb_j (by omega) (by decide)), letv_n, grd_t (inb_j (by omega) (by decide)), letv_n, nI_clamp (by omega), nI_clamp (by omega), e, e2]
  simp only [letv_n, if_true, if_neg (show ¬ ((2 : Int32) = 1) by decide), if_neg (nI_pos (show j < 2 ^ 31 by omega)), if_neg (show ¬ (9 : Int32) ≤ nI j from nI_ge (b := 9) hj (by decide)), bnd1_n, q3_n, if_neg (show ¬ (1 = 0) by decide)]
  rw [grd_t (inb_j hj (by decide))]
  simp only [bnd1_n]
  rw [grd_t (inb_j h3 (by decide)), nI_clamp (by omega), nI_clamp (by omega), nI_1, nI_1, show nI pc + 2 = nI (pc + 2) from nI_add pc 2]
theorem la_end {t : Nat} (h1 : step < 512) (h2 : pc < 500) (h3 : t + 1 < 32) (e : mI σ 4 pc = 0) : L_La_run_l7 N (k + 1) (nI (t + 1)) (nI pc) (nI step) σ = some (.inl (mI σ 9 t, σ)) := by
  show B_La_run_l7 N _ _ _ _ σ = _
  unfold B_La_run_l7
  rw [if_neg (show ¬ (513 : Int32) ≤ nI step from nI_ge (b := 513) (by omega) (by decide)), if_neg (nI_pos (by omega)), nI_1, if_neg (show ¬ (513 : Int32) ≤ nI (pc + 1) from nI_ge (b := 513) (by omega) (by decide)), if_neg (show ¬ (32 : Int32) ≤ nI (t + 1) from nI_ge (b := 32) (by omega) (by decide)), grd_t (inb_j (by omega) (by decide)), letv_n, grd_t (inb_j (by omega) (by decide)), letv_n, nI_clamp (by omega), nI_clamp (by omega), e]
  have hz : ¬ nI (t + 1) = 0 := nI_ne0 (by omega) (by omega)
  simp only [letv_n, if_true, if_neg (show ¬ ((0 : Int32) = 1) by decide), if_neg (show ¬ ((0 : Int32) = 2) by decide), bnd1_n, q3_n, if_neg (show ¬ (2 = 0) by decide), if_neg (show ¬ (2 = 1) by decide), if_neg hz, nI_pred]
  rw [grd_t (inb_j (by omega) (by decide)), nI_clamp (by omega)]
theorem la_jump {t : Nat} {v40 w : Int32} (h1 : step < 512) (h2 : pc < 500) (h3 : t + 1 < 32) (e : mI σ 4 pc = v40) (hw : (v40 = 3 ∧ w = 0) ∨ (v40 = 4 ∧ w = 1)) (hx : mI σ 9 t = 0 ∨ mI σ 9 t = 1) : L_La_run_l7 N (k + 1) (nI (t + 1)) (nI pc) (nI step) σ = if mI σ 9 t = w then L_La_run_l7 N k (nI (t + 1)) (mI σ 4 (pc + 1)) (nI (step + 1)) σ else L_La_run_l7 N k (nI t) (nI (pc + 2)) (nI (step + 1)) σ := by
  show B_La_run_l7 N _ _ _ _ σ = _
  unfold B_La_run_l7
  rw [if_neg (show ¬ (513 : Int32) ≤ nI step from nI_ge (b := 513) (by omega) (by decide)), if_neg (nI_pos (by omega)), nI_1, if_neg (show ¬ (513 : Int32) ≤ nI (pc + 1) from nI_ge (b := 513) (by omega) (by decide)), if_neg (show ¬ (32 : Int32) ≤ nI (t + 1) from nI_ge (b := 32) (by omega) (by decide)), grd_t (inb_j (by omega) (by decide)), letv_n, grd_t (inb_j (by omega) (by decide)), letv_n, nI_clamp (by omega), nI_clamp (by omega), e]
  have hz : ¬ nI (t + 1) = 0 := nI_ne0 (by omega) (by omega)
  have e2 : nI pc + 2 = nI (pc + 2) := nI_add pc 2
  have g : inb (nI t) 32 = true := inb_j (by omega) (by decide)
  have c0 : (nI t).toNatClampNeg = t := nI_clamp (by omega)
  have z1 : nI (t + 1) - 1 = nI t := nI_pred t
  have z0 : nI (t + 1) - 0 = nI (t + 1) := by simp
  rcases hw with ⟨rfl, rfl⟩ | ⟨rfl, rfl⟩ <;> rcases hx with hx | hx <;>
    simp [letv_n, bnd1_n, q3_n, hz, z1, z0, grd_t g, c0, hx, nI_1, e2]
theorem la_not {t : Nat} (h1 : step < 512) (h2 : pc < 500) (h3 : t + 1 < 32) (e : mI σ 4 pc = 5) : L_La_run_l7 N (k + 1) (nI (t + 1)) (nI pc) (nI step) σ = L_La_run_l7 N k (nI (t + 1)) (nI (pc + 1)) (nI (step + 1)) (sI σ 9 t (1 - mI σ 9 t)) := by
  show B_La_run_l7 N _ _ _ _ σ = _
  unfold B_La_run_l7
  rw [if_neg (show ¬ (513 : Int32) ≤ nI step from nI_ge (b := 513) (by omega) (by decide)), if_neg (nI_pos (by omega)), nI_1, if_neg (show ¬ (513 : Int32) ≤ nI (pc + 1) from nI_ge (b := 513) (by omega) (by decide)), if_neg (show ¬ (32 : Int32) ≤ nI (t + 1) from nI_ge (b := 32) (by omega) (by decide)), grd_t (inb_j (by omega) (by decide)), letv_n, grd_t (inb_j (by omega) (by decide)), letv_n, nI_clamp (by omega), nI_clamp (by omega), e]
  have hz : ¬ nI (t + 1) = 0 := nI_ne0 (by omega) (by omega)
  have g : inb (nI t) 32 = true := inb_j (by omega) (by decide)
  have c0 : (nI t).toNatClampNeg = t := nI_clamp (by omega)
  have z1 : nI (t + 1) - 1 = nI t := nI_pred t
  simp [letv_n, bnd1_n, q3_n, hz, z1, grd_t g, c0, nI_1]
theorem la_reckon {c x y : Int32} (h : ¬ (isDv c ∧ y = 0)) : f_La_reckon c x y = some (rk c x y) := by
  unfold f_La_reckon rk
  by_cases c1 : c = 37
  · have hy : ¬ y = 0 := fun z => h ⟨Or.inr c1, z⟩
    rw [if_pos c1, if_pos c1, if_neg hy, grd_t (by simp [hy])]
  rw [if_neg c1, if_neg c1]
  by_cases c2 : c = 42
  · rw [if_pos c2, if_pos c2]
  rw [if_neg c2, if_neg c2]
  by_cases c3 : c = 43
  · rw [if_pos c3, if_pos c3]
  rw [if_neg c3, if_neg c3]
  by_cases c4 : c = 45
  · rw [if_pos c4, if_pos c4]
  rw [if_neg c4, if_neg c4]
  by_cases c5 : c = 47
  · have hy : ¬ y = 0 := fun z => h ⟨Or.inl c5, z⟩
    rw [if_pos c5, if_pos c5, if_neg hy, grd_t (by simp [hy])]
  rw [if_neg c5, if_neg c5]
  by_cases c6 : c = 60
  · rw [if_pos c6, if_pos c6]
    by_cases z : y ≤ x
    · rw [if_pos z, if_pos z]
    · rw [if_neg z, if_neg z]
  rw [if_neg c6, if_neg c6]
  by_cases c7 : c = 62
  · rw [if_pos c7, if_pos c7]
    by_cases z : x ≤ y
    · rw [if_pos z, if_pos z]
    · rw [if_neg z, if_neg z]
  rw [if_neg c7, if_neg c7]
  by_cases z : x = y
  · rw [if_pos z, if_pos z]
  · rw [if_neg z, if_neg z]
theorem op_ne {c : Int32} (h : isMd c ∨ isPm c ∨ isCm c) : ¬ c = 0 ∧ ¬ c = 1 ∧ ¬ c = 2 ∧ ¬ c = 3 ∧ ¬ c = 4 ∧ ¬ c = 5 := by
  rcases h with (h | h | h) | (h | h) | (h | h | h) <;> rw [h] <;> decide
theorem la_op {t : Nat} {c : Int32} (h1 : step < 512) (h2 : pc < 500) (h3 : t + 2 < 32) (e : mI σ 4 pc = c) (hc : isMd c ∨ isPm c ∨ isCm c) (hn : ¬ (isDv c ∧ mI σ 9 (t + 1) = 0)) : L_La_run_l7 N (k + 1) (nI (t + 2)) (nI pc) (nI step) σ = L_La_run_l7 N k (nI (t + 1)) (nI (pc + 1)) (nI (step + 1)) (sI σ 9 t (rk c (mI σ 9 t) (mI σ 9 (t + 1)))) := by
  show B_La_run_l7 N _ _ _ _ σ = _
  unfold B_La_run_l7
  rw [if_neg (show ¬ (513 : Int32) ≤ nI step from nI_ge (b := 513) (by omega) (by decide)), if_neg (nI_pos (by omega)), nI_1, if_neg (show ¬ (513 : Int32) ≤ nI (pc + 1) from nI_ge (b := 513) (by omega) (by decide)), if_neg (show ¬ (32 : Int32) ≤ nI (t + 2) from nI_ge (b := 32) (by omega) (by decide)), grd_t (inb_j (by omega) (by decide)), letv_n, grd_t (inb_j (by omega) (by decide)), letv_n, nI_clamp (by omega), nI_clamp (by omega), e]
  have hz : ¬ nI (t + 2) = 0 := nI_ne0 (by omega) (by omega)
  have g0 : inb (nI t) 32 = true := inb_j (by omega) (by decide)
  have g1 : inb (nI (t + 1)) 32 = true := inb_j (by omega) (by decide)
  have c0 : (nI t).toNatClampNeg = t := nI_clamp (by omega)
  have c1 : (nI (t + 1)).toNatClampNeg = t + 1 := nI_clamp (by omega)
  have z1 : nI (t + 1) - 1 = nI t := nI_pred t
  have z2 : nI (t + 2) - 1 = nI (t + 1) := nI_pred (t + 1)
  have z3 : nI (t + 2) + (-1) = nI (t + 1) := by rw [← z2]; exact (Int32.sub_eq_add_neg _ _).symm
  have l2 : ¬ nI (t + 2) < 2 := nI_nlt (b := 2) (by omega) (by omega)
  obtain ⟨n0, n1, n2, n3, n4, n5⟩ := op_ne hc
  have hr : f_La_reckon c (mI σ 9 t) (mI σ 9 (t + 1)) = some (rk c (mI σ 9 t) (mI σ 9 (t + 1))) := la_reckon hn
  simp only [letv_n, bnd1_n, q3_n, hz, z1, z2, z3, l2, grd_t g0, grd_t g1, c0, c1, n0, n1, n2, n3, n4, n5, if_false, nI_1, hr, if_neg (show ¬ (2 = 0) by decide), if_neg (show ¬ (2 = 1) by decide)]
  by_cases y0 : mI σ 9 (t + 1) = 0
  · have q1 : ¬ c = 47 := fun z => hn ⟨Or.inl z, y0⟩
    have q2 : ¬ c = 37 := fun z => hn ⟨Or.inr z, y0⟩
    rw [if_pos y0, if_neg q1, if_neg q2]
    rfl
  · rw [if_neg y0]
    rfl
theorem la_ref {t : Nat} {c : Int32} (h1 : step < 512) (h2 : pc < 500) (h3 : t + 2 < 32) (e : mI σ 4 pc = c) (hc : isDv c) (hn : mI σ 9 (t + 1) = 0) : L_La_run_l7 N (k + 1) (nI (t + 2)) (nI pc) (nI step) σ = some (.inl (0, σ)) := by
  show B_La_run_l7 N _ _ _ _ σ = _
  unfold B_La_run_l7
  rw [if_neg (show ¬ (513 : Int32) ≤ nI step from nI_ge (b := 513) (by omega) (by decide)), if_neg (nI_pos (by omega)), nI_1, if_neg (show ¬ (513 : Int32) ≤ nI (pc + 1) from nI_ge (b := 513) (by omega) (by decide)), if_neg (show ¬ (32 : Int32) ≤ nI (t + 2) from nI_ge (b := 32) (by omega) (by decide)), grd_t (inb_j (by omega) (by decide)), letv_n, grd_t (inb_j (by omega) (by decide)), letv_n, nI_clamp (by omega), nI_clamp (by omega), e]
  have hz : ¬ nI (t + 2) = 0 := nI_ne0 (by omega) (by omega)
  have g1 : inb (nI (t + 1)) 32 = true := inb_j (by omega) (by decide)
  have c1 : (nI (t + 1)).toNatClampNeg = t + 1 := nI_clamp (by omega)
  have z2 : nI (t + 2) - 1 = nI (t + 1) := nI_pred (t + 1)
  have l2 : ¬ nI (t + 2) < 2 := nI_nlt (b := 2) (by omega) (by omega)
  obtain ⟨n0, n1, n2, n3, n4, n5⟩ := op_ne (c := c) (by rcases hc with q | q <;> exact Or.inl (by unfold isMd; simp [q]))
  simp only [letv_n, bnd1_n, q3_n, hz, z2, l2, grd_t g1, c1, n0, n1, n2, n3, n4, n5, if_false, if_neg (show ¬ (2 = 0) by decide), if_neg (show ¬ (2 = 1) by decide)]
  rw [if_pos hn]
  rcases hc with q | q
  · rw [if_pos q]; rfl
  · rw [if_neg (by rw [q]; decide), if_pos q]; rfl
end LaRun
def AdC (N : Nat) (σ : Mem) (k pc step m : Nat) (st : List Int32) (r : Option (Nat × List Int32)) : Prop := match r with
  | none => ∃ σ', L_La_run_l7 N k (nI st.length) (nI pc) (nI step) σ = some (.inl (0, σ'))
  | some (e, st') => ∃ σ', L_La_run_l7 N k (nI st.length) (nI pc) (nI step) σ = L_La_run_l7 N (k - m) (nI st'.length) (nI e) (nI (step + m)) σ' ∧ Fr [9] [] σ σ' ∧ SS (mI σ' 9) st'
theorem AdC.next {N : Nat} {σ σ1 : Mem} {k pc pc1 step m : Nat} {st st1 : List Int32} {r : Option (Nat × List Int32)} (h : AdC N σ1 k pc1 (step + 1) m st1 r) (e : L_La_run_l7 N (k + 1) (nI st.length) (nI pc) (nI step) σ = L_La_run_l7 N k (nI st1.length) (nI pc1) (nI (step + 1)) σ1) (F : Fr [9] [] σ σ1) : AdC N σ (k + 1) pc step (m + 1) st r := by
  cases r with
  | none =>
    obtain ⟨σ', h1⟩ := h
    exact ⟨σ', e.trans h1⟩
  | some q =>
    obtain ⟨e', st'⟩ := q
    obtain ⟨σ', h1, h2, h3⟩ := h
    refine ⟨σ', ?_, F.t h2, h3⟩
    rw [e, h1, show k + 1 - (m + 1) = k - m by omega, show step + (m + 1) = step + 1 + m by omega]
theorem ad_c {N E : Nat} {F : FA} {cd : Nat → Int32} {r : Option (Nat × List Int32)} : ∀ (m pc : Nat) (st : List Int32) (k step : Nat) (σ : Mem), Run (DC cd) F E m pc st r → mI σ 4 = cd → (∀ j, j < 9 → mI σ 8 j = F j) → SS (mI σ 9) st → m ≤ k → step + m ≤ 512 → AdC N σ k pc step m st r := by
  intro m
  induction m with
  | zero =>
    intro pc st k step σ h hcd hF hS hk hst
    have h : r = some (pc, st) := h
    subst h
    exact ⟨σ, rfl, Fr.rf _ _ _, hS⟩
  | succ m ih =>
    intro pc st k step σ h hcd hF hS hk hst
    obtain ⟨k, rfl⟩ : ∃ z, k = z + 1 := ⟨k - 1, by omega⟩
    obtain ⟨h1, h3, i, v, nx, ⟨hp, hD⟩, h⟩ := h
    have hstep : step < 512 := by omega
    rcases h with ⟨e, h⟩ | ⟨e, j, hj, hv, h⟩ | ⟨e, x, y, s, es, h⟩ | ⟨e, x, s, es, h⟩ | ⟨e, x, s, t, es, et, hx, h⟩
    · subst e
      have hD : cd pc = 1 ∧ cd (pc + 1) = v ∧ nx = pc + 2 := by simpa using hD
      obtain ⟨d1, d2, rfl⟩ := hD
      have hr := la_num (N := N) (k := k) (top := st.length) (σ := σ) hstep hp h3 (by rw [hcd]; exact d1)
      rw [hcd, d2] at hr
      refine AdC.next (ih (pc + 2) (v :: st) k (step + 1) _ h (by rw [mI_sIn _ _ _ (by decide)]; exact hcd) (fun j hj => by rw [mI_sIn _ _ _ (by decide)]; exact hF j hj) (by rw [mI_sI]; exact hS.push) (by omega) (by omega)) hr (frA _ _ _ _)
    · subst e
      have hD : cd pc = 2 ∧ cd (pc + 1) = v ∧ nx = pc + 2 := by simpa using hD
      obtain ⟨d1, d2, rfl⟩ := hD
      have hr := la_fact (N := N) (k := k) (top := st.length) (σ := σ) (j := j) hstep hp h3 (by rw [hcd]; exact d1) hj (by rw [hcd, d2]; exact hv)
      rw [hF j hj] at hr
      refine AdC.next (ih (pc + 2) (F j :: st) k (step + 1) _ h (by rw [mI_sIn _ _ _ (by decide)]; exact hcd) (fun j hj => by rw [mI_sIn _ _ _ (by decide)]; exact hF j hj) (by rw [mI_sI]; exact hS.push) (by omega) (by omega)) hr (frA _ _ _ _)
    · subst e es
      have hD : cd pc = v ∧ (isMd v ∨ isPm v ∨ isCm v) ∧ nx = pc + 1 := by simpa using hD
      obtain ⟨d1, d2, rfl⟩ := hD
      obtain ⟨s1, s2, s3⟩ := hS
      have s1 : mI σ 9 (s.length + 1) = y := s1
      rw [List.length_cons, List.length_cons] at h3
      rcases h with ⟨q1, q2, q3⟩ | ⟨q1, q2⟩
      · subst q3
        exact ⟨σ, la_ref (N := N) (k := k) (t := s.length) hstep hp (by omega) (by rw [hcd]; exact d1) q1 (by rw [s1]; exact q2)⟩
      · have hr := la_op (N := N) (k := k) (t := s.length) (σ := σ) hstep hp (by omega) (by rw [hcd]; exact d1) d2 (by rw [s1]; exact q1)
        rw [s1, s2] at hr
        refine AdC.next (ih (pc + 1) (rk v x y :: s) k (step + 1) _ q2 (by rw [mI_sIn _ _ _ (by decide)]; exact hcd) (fun j hj => by rw [mI_sIn _ _ _ (by decide)]; exact hF j hj) (by rw [mI_sI]; exact s3.push) (by omega) (by omega)) hr (frA _ _ _ _)
    · subst e es
      have hD : cd pc = 5 ∧ nx = pc + 1 := by simpa using hD
      obtain ⟨d1, rfl⟩ := hD
      obtain ⟨s2, s3⟩ := hS
      rw [List.length_cons] at h3
      have hr := la_not (N := N) (k := k) (t := s.length) (σ := σ) hstep hp (by omega) (by rw [hcd]; exact d1)
      rw [s2] at hr
      refine AdC.next (ih (pc + 1) ((1 - x) :: s) k (step + 1) _ h (by rw [mI_sIn _ _ _ (by decide)]; exact hcd) (fun j hj => by rw [mI_sIn _ _ _ (by decide)]; exact hF j hj) (by rw [mI_sI]; exact s3.push) (by omega) (by omega)) hr (frA _ _ _ _)
    · subst es
      have hD : ∃ v40 w, cd pc = v40 ∧ ((v40 = 3 ∧ w = 0) ∨ (v40 = 4 ∧ w = 1)) ∧ wt i = w ∧ cd (pc + 1) = v ∧ nx = pc + 2 := by
        rcases e with rfl | rfl
        · have hD : cd pc = 3 ∧ cd (pc + 1) = v ∧ nx = pc + 2 := by simpa using hD
          exact ⟨3, 0, hD.1, Or.inl ⟨rfl, rfl⟩, rfl, hD.2⟩
        · have hD : cd pc = 4 ∧ cd (pc + 1) = v ∧ nx = pc + 2 := by simpa using hD
          exact ⟨4, 1, hD.1, Or.inr ⟨rfl, rfl⟩, rfl, hD.2⟩
      obtain ⟨v40, w, d1, d2, d3, d4, rfl⟩ := hD
      have hS' := hS
      obtain ⟨s2, s3⟩ := hS
      rw [List.length_cons] at h3
      have hr := la_jump (N := N) (k := k) (t := s.length) (σ := σ) (v40 := v40) (w := w) hstep hp (by omega) (by rw [hcd]; exact d1) d2 (by rw [s2]; exact hx)
      rw [s2, hcd, d4, et] at hr
      rw [d3] at h
      rcases h with ⟨q1, q2⟩ | ⟨q1, q2⟩
      · rw [if_pos q1] at hr
        exact AdC.next (ih t (x :: s) k (step + 1) _ q2 hcd hF hS' (by omega) (by omega)) hr (Fr.rf _ _ _)
      · rw [if_neg q1] at hr
        exact AdC.next (ih (pc + 2) s k (step + 1) _ q2 hcd hF s3 (by omega) (by omega)) hr (Fr.rf _ _ _)
/-- the class's machine over code that comes to g and ends -/
theorem la_run_sem {N : Nat} (hN : 1000 < N) {σ : Mem} {cd : Nat → Int32} {s e h : Nat} {g : DN} (H : SemX DC cd s e h g) (hcd : ∀ j, s ≤ j → j < e → mI σ 4 j = cd j) (he : mI σ 4 e = 0) (h1 : e < 500) (hh : h ≤ 32) {F : FA} (hF : ∀ j, j < 9 → mI σ 8 j = F j) : ∃ σ1, f_La_run N σ (nI s) = some ((g F).getD 0, σ1) := by
  obtain ⟨m, hm, hR⟩ := H (mI σ 4) hcd F [] (by simpa using hh)
  have hA := ad_c (N := N) m s [] N 0 σ hR rfl hF True.intro (by omega) (by omega)
  unfold f_La_run
  cases hg : g F with
  | none =>
    rw [hg] at hA
    obtain ⟨σ', h2⟩ := hA
    refine ⟨σ', ?_⟩
    show bnd1 (L_La_run_l7 N N (nI ([] : List Int32).length) (nI s) (nI 0) σ) _ = _
    rw [h2]
    rfl
  | some v =>
    rw [hg] at hA
    obtain ⟨σ', h2, h3, h4⟩ := hA
    refine ⟨σ', ?_⟩
    show bnd1 (L_La_run_l7 N N (nI ([] : List Int32).length) (nI s) (nI 0) σ) _ = _
    rw [h2, show N - m = (N - m - 1) + 1 by omega]
    have := la_end (N := N) (k := N - m - 1) (t := 0) (pc := e) (step := 0 + m) (σ := σ') (by omega) h1 (by omega) (by rw [h3.I 4 e (by decide) (by simp)]; exact he)
    show bnd1 (L_La_run_l7 N (N - m - 1 + 1) (nI (0 + 1)) (nI e) (nI (0 + m)) σ') _ = _
    rw [this]
    have h5 : mI σ' 9 0 = v := h4.1
    rw [h5]
    rfl
