-- ===== the reference's machine goes by the runs =====
theorem un_q {o v : Nat} (ho : o < 16) (hv : v < 1048576) : nI (1048576 * o + v) / 1048576 = nI o := by
  have := pk_div (a := 1048576 * o + v) (d := 1048576) (by omega) (by decide) (by decide)
  rw [show (1048576 * o + v) / 1048576 = o by omega] at this
  exact this
theorem un_r {o v : Nat} (ho : o < 16) (hv : v < 1048576) : nI (1048576 * o + v) - nI (1048576 * o + v) / 1048576 * 1048576 = nI v := by
  have := pk_rem (a := 1048576 * o + v) (d := 1048576) (by omega) (by decide) (by decide)
  rw [show (1048576 * o + v) % 1048576 = v by omega] at this
  exact this
theorem mo_reckon {o : Nat} {x y : Int32} (h2 : 2 ≤ o) (h9 : o ≤ 9) (h : ¬ (isDv (chr o) ∧ y = 0)) : f_Mo_reckon (nI o) x y = some (rk (chr o) x y) := by
  have hy : o = 5 ∨ o = 6 → ¬ y = 0 := fun z w => h ⟨by rcases z with rfl | rfl <;> unfold isDv chr <;> decide, w⟩
  unfold f_Mo_reckon rk
  rcases (show o = 2 ∨ o = 3 ∨ o = 4 ∨ o = 5 ∨ o = 6 ∨ o = 7 ∨ o = 8 ∨ o = 9 by omega) with rfl | rfl | rfl | rfl | rfl | rfl | rfl | rfl
  · rfl
  · rfl
  · rfl
  · have hy := hy (Or.inl rfl)
    show grd (decide (¬ y = 0)) (some (x / y)) = some (x / y)
    rw [grd_t (by simp [hy])]
  · have hy := hy (Or.inr rfl)
    show grd (decide (¬ y = 0)) (some (x - x / y * y)) = some (x - x / y * y)
    rw [grd_t (by simp [hy])]
  · show (if y ≤ x then some 0 else some 1) = some (if y ≤ x then 0 else 1)
    by_cases z : y ≤ x
    · rw [if_pos z, if_pos z]
    · rw [if_neg z, if_neg z]
  · show (if x ≤ y then some 0 else some 1) = some (if x ≤ y then 0 else 1)
    by_cases z : x ≤ y
    · rw [if_pos z, if_pos z]
    · rw [if_neg z, if_neg z]
  · show (if x = y then some 1 else some 0) = some (if x = y then 1 else 0)
    by_cases z : x = y
    · rw [if_pos z, if_pos z]
    · rw [if_neg z, if_neg z]
section MoRun
variable {N k top pc to : Nat} {σ : Mem}
theorem mo_cnum {v : Nat} (h1 : pc < to) (h2 : to < 260) (h3 : top < 260) (hv : v < 1048576) (e : mI σ 79 pc = nI v) : L_Mo_comesTo_l16 N (nI to) 0 (k + 1) (nI top) (nI pc) σ = L_Mo_comesTo_l16 N (nI to) 0 k (nI (top + 1)) (nI (pc + 1)) (sI σ 84 top (nI v)) := by
  have d1 : mI σ 79 pc / 1048576 = 0 := by rw [e]; have := un_q (o := 0) (v := v) (by decide) hv; rw [Nat.mul_zero, Nat.zero_add] at this; exact this
  have d2 : mI σ 79 pc - 0 * 1048576 = nI v := by have := un_r (o := 0) (v := v) (by decide) hv; rw [Nat.mul_zero, Nat.zero_add, ← e, d1] at this; exact this.trans e
  show B_Mo_comesTo_l16 N _ _ _ _ _ σ = _
  unfold B_Mo_comesTo_l16
  rw [if_neg (nI_ge h1 (by omega)), grd_t (inb_j (by omega) (by decide)), letv_n, grd_t (inb_j (by omega) (by decide)), letv_n, nI_clamp (by omega), d1, nI_1]
  simp only [letv_n, d2, if_true, bnd1_n, q5_n, if_neg (show ¬ (1 = 0) by decide)]
  rw [grd_t (inb_j h3 (by decide)), nI_clamp (by omega), nI_1]
theorem mo_cfact {j : Nat} (h1 : pc < to) (h2 : to < 260) (h3 : top < 260) (hj : j < 9) (e : mI σ 79 pc = nI (1048576 * 1 + j)) : L_Mo_comesTo_l16 N (nI to) 0 (k + 1) (nI top) (nI pc) σ = L_Mo_comesTo_l16 N (nI to) 0 k (nI (top + 1)) (nI (pc + 1)) (sI σ 84 top (mI σ 85 j)) := by
  have d1 : mI σ 79 pc / 1048576 = 1 := by rw [e]; exact un_q (o := 1) (v := j) (by decide) (by omega)
  have d2 : mI σ 79 pc - 1 * 1048576 = nI j := by have := un_r (o := 1) (v := j) (by decide) (by omega); rw [← e, d1] at this; exact this
  show B_Mo_comesTo_l16 N _ _ _ _ _ σ = _
  unfold B_Mo_comesTo_l16
  rw [if_neg (nI_ge h1 (by omega)), grd_t (inb_j (by omega) (by decide)), letv_n, grd_t (inb_j (by omega) (by decide)), letv_n, nI_clamp (by omega), d1, nI_1]
  simp only [letv_n, d2, if_true, if_neg (show ¬ ((1 : Int32) = 0) by decide), bnd1_n, q5_n, if_neg (show ¬ (1 = 0) by decide)]
  rw [grd_t (inb_j hj (by decide))]
  simp only [bnd1_n]
  rw [grd_t (inb_j h3 (by decide)), nI_clamp (by omega), nI_clamp (by omega), nI_1]
theorem mo_cneg {t : Nat} (h1 : pc < to) (h2 : to < 260) (h3 : t + 1 < 260) (e : mI σ 79 pc = nI (1048576 * 10 + 0)) : L_Mo_comesTo_l16 N (nI to) 0 (k + 1) (nI (t + 1)) (nI pc) σ = L_Mo_comesTo_l16 N (nI to) 0 k (nI (t + 1)) (nI (pc + 1)) (sI σ 84 t (1 - mI σ 84 t)) := by
  have d1 : mI σ 79 pc / 1048576 = 10 := by rw [e]; exact un_q (o := 10) (v := 0) (by decide) (by omega)
  show B_Mo_comesTo_l16 N _ _ _ _ _ σ = _
  unfold B_Mo_comesTo_l16
  rw [if_neg (nI_ge h1 (by omega)), grd_t (inb_j (by omega) (by decide)), letv_n, grd_t (inb_j (by omega) (by decide)), letv_n, nI_clamp (by omega), d1, nI_1]
  have g : inb (nI t) 260 = true := inb_j (by omega) (by decide)
  have c0 : (nI t).toNatClampNeg = t := nI_clamp (by omega)
  simp [letv_n, bnd1_n, q5_n, nI_pred, grd_t g, c0]
theorem mo_cjump {t : Nat} {o tg : Nat} {w : Int32} (h1 : pc < to) (h2 : to < 260) (h3 : t + 1 < 260) (ho : (o = 11 ∧ w = 0) ∨ (o = 12 ∧ w = 1)) (ht : tg < 1048576) (e : mI σ 79 pc = nI (1048576 * o + tg)) (hx : mI σ 84 t = 0 ∨ mI σ 84 t = 1) : L_Mo_comesTo_l16 N (nI to) 0 (k + 1) (nI (t + 1)) (nI pc) σ = if mI σ 84 t = w then L_Mo_comesTo_l16 N (nI to) 0 k (nI (t + 1)) (nI tg) σ else L_Mo_comesTo_l16 N (nI to) 0 k (nI t) (nI (pc + 1)) σ := by
  have d1 : mI σ 79 pc / 1048576 = nI o := by rw [e]; exact un_q (o := o) (v := tg) (by omega) (by omega)
  have d2 : mI σ 79 pc - nI o * 1048576 = nI tg := by have := un_r (o := o) (v := tg) (by omega) (by omega); rw [← e, d1] at this; exact this
  show B_Mo_comesTo_l16 N _ _ _ _ _ σ = _
  unfold B_Mo_comesTo_l16
  rw [if_neg (nI_ge h1 (by omega)), grd_t (inb_j (by omega) (by decide)), letv_n, grd_t (inb_j (by omega) (by decide)), letv_n, nI_clamp (by omega), d1, nI_1]
  have g : inb (nI t) 260 = true := inb_j (by omega) (by decide)
  have c0 : (nI t).toNatClampNeg = t := nI_clamp (by omega)
  rcases ho with ⟨rfl, rfl⟩ | ⟨rfl, rfl⟩
  · rw [show nI 11 = (11 : Int32) from rfl] at d2 ⊢
    have d3 : mI σ 79 pc - 11534336 = nI tg := by rw [← d2, show (11 : Int32) * 1048576 = 11534336 by decide]
    rcases hx with hx | hx <;> simp [letv_n, bnd1_n, q5_n, q2_n, nI_pred, grd_t g, c0, d3, hx]
  · rw [show nI 12 = (12 : Int32) from rfl] at d2 ⊢
    have d3 : mI σ 79 pc - 12582912 = nI tg := by rw [← d2, show (12 : Int32) * 1048576 = 12582912 by decide]
    rcases hx with hx | hx <;> simp [letv_n, bnd1_n, q5_n, q2_n, nI_pred, grd_t g, c0, d3, hx]
theorem nI_op {o : Nat} (h2 : 2 ≤ o) (h9 : o ≤ 9) : ¬ nI o = 0 ∧ ¬ nI o = 1 ∧ ¬ nI o = 10 ∧ ¬ nI o = 11 ∧ ¬ nI o = 12 ∧ (nI o = 5 ↔ o = 5) ∧ (nI o = 6 ↔ o = 6) := by
  rcases (show o = 2 ∨ o = 3 ∨ o = 4 ∨ o = 5 ∨ o = 6 ∨ o = 7 ∨ o = 8 ∨ o = 9 by omega) with rfl | rfl | rfl | rfl | rfl | rfl | rfl | rfl <;> decide
theorem chr_dv {o : Nat} (h2 : 2 ≤ o) (h9 : o ≤ 9) : isDv (chr o) ↔ o = 5 ∨ o = 6 := by
  unfold isDv
  rcases (show o = 2 ∨ o = 3 ∨ o = 4 ∨ o = 5 ∨ o = 6 ∨ o = 7 ∨ o = 8 ∨ o = 9 by omega) with rfl | rfl | rfl | rfl | rfl | rfl | rfl | rfl <;> decide
theorem mo_cop {t o : Nat} (h1 : pc < to) (h2 : to < 260) (h3 : t + 2 < 260) (ho : 2 ≤ o) (h9 : o ≤ 9) (e : mI σ 79 pc = nI (1048576 * o + 0)) (hn : ¬ (isDv (chr o) ∧ mI σ 84 (t + 1) = 0)) : L_Mo_comesTo_l16 N (nI to) 0 (k + 1) (nI (t + 2)) (nI pc) σ = L_Mo_comesTo_l16 N (nI to) 0 k (nI (t + 1)) (nI (pc + 1)) (sI σ 84 t (rk (chr o) (mI σ 84 t) (mI σ 84 (t + 1)))) := by
  have d1 : mI σ 79 pc / 1048576 = nI o := by rw [e]; exact un_q (o := o) (v := 0) (by omega) (by omega)
  show B_Mo_comesTo_l16 N _ _ _ _ _ σ = _
  unfold B_Mo_comesTo_l16
  rw [if_neg (nI_ge h1 (by omega)), grd_t (inb_j (by omega) (by decide)), letv_n, grd_t (inb_j (by omega) (by decide)), letv_n, nI_clamp (by omega), d1, nI_1]
  have g0 : inb (nI t) 260 = true := inb_j (by omega) (by decide)
  have g1 : inb (nI (t + 1)) 260 = true := inb_j (by omega) (by decide)
  have c0 : (nI t).toNatClampNeg = t := nI_clamp (by omega)
  have c1 : (nI (t + 1)).toNatClampNeg = t + 1 := nI_clamp (by omega)
  have z1 : nI (t + 1) - 1 = nI t := nI_pred t
  have z2 : nI (t + 2) - 1 = nI (t + 1) := nI_pred (t + 1)
  obtain ⟨n0, n1, n2, n3, n4, n5, n6⟩ := nI_op ho h9
  have hr := mo_reckon (x := mI σ 84 t) ho h9 hn
  simp only [letv_n, n0, n1, n2, n3, n4, if_false, z2]
  by_cases q : o = 5 ∨ o = 6
  · have hy : ¬ mI σ 84 (t + 1) = 0 := fun z => hn ⟨(chr_dv ho h9).mpr q, z⟩
    rcases q with q | q
    · have n5 := n5.mpr q
      simp only [n5, if_true, bnd1_n, q5_n, if_neg (show ¬ (3 = 0) by decide), if_neg (show ¬ (3 = 1) by decide), if_neg (show ¬ (3 = 2) by decide), grd_t g1, c1, if_neg hy, z1, grd_t g0, c0]
      rw [← n5, hr]
      simp only [bnd1_n]
    · have n6 := n6.mpr q
      have n5' : ¬ nI o = 5 := by rw [n6]; decide
      simp only [n5', if_false, n6, if_true, bnd1_n, q5_n, if_neg (show ¬ ((6 : Int32) = 5) by decide), if_neg (show ¬ (3 = 0) by decide), if_neg (show ¬ (3 = 1) by decide), if_neg (show ¬ (3 = 2) by decide), grd_t g1, c1, if_neg hy, z1, grd_t g0, c0]
      rw [← n6, hr]
      simp only [bnd1_n]
  · have q5' : ¬ nI o = 5 := fun z => q (Or.inl (n5.mp z))
    have q6' : ¬ nI o = 6 := fun z => q (Or.inr (n6.mp z))
    simp only [q5', q6', if_false, bnd1_n, q5_n, if_neg (show ¬ (4 = 0) by decide), if_neg (show ¬ (4 = 1) by decide), if_neg (show ¬ (4 = 2) by decide), if_neg (show ¬ (4 = 3) by decide), if_true, grd_t g1, c1, z1, grd_t g0, c0]
    rw [hr]
    simp only [bnd1_n]
theorem mo_cref {t o : Nat} (h1 : pc < to) (h2 : to < 260) (h3 : t + 2 < 260) (ho : 2 ≤ o) (h9 : o ≤ 9) (e : mI σ 79 pc = nI (1048576 * o + 0)) (hc : isDv (chr o)) (hn : mI σ 84 (t + 1) = 0) : L_Mo_comesTo_l16 N (nI to) 0 (k + 1) (nI (t + 2)) (nI pc) σ = some (0, σ) := by
  have d1 : mI σ 79 pc / 1048576 = nI o := by rw [e]; exact un_q (o := o) (v := 0) (by omega) (by omega)
  show B_Mo_comesTo_l16 N _ _ _ _ _ σ = _
  unfold B_Mo_comesTo_l16
  rw [if_neg (nI_ge h1 (by omega)), grd_t (inb_j (by omega) (by decide)), letv_n, grd_t (inb_j (by omega) (by decide)), letv_n, nI_clamp (by omega), d1, nI_1]
  have g1 : inb (nI (t + 1)) 260 = true := inb_j (by omega) (by decide)
  have c1 : (nI (t + 1)).toNatClampNeg = t + 1 := nI_clamp (by omega)
  have z2 : nI (t + 2) - 1 = nI (t + 1) := nI_pred (t + 1)
  rcases (chr_dv ho h9).mp hc with rfl | rfl
  · rw [show nI 5 = (5 : Int32) from rfl]
    simp [letv_n, bnd1_n, q5_n, z2, grd_t g1, c1, hn]
  · rw [show nI 6 = (6 : Int32) from rfl]
    simp [letv_n, bnd1_n, q5_n, z2, grd_t g1, c1, hn]
end MoRun
def AdM (N to : Nat) (σ : Mem) (k pc m : Nat) (st : List Int32) (r : Option (Nat × List Int32)) : Prop := match r with
  | none => ∃ σ', L_Mo_comesTo_l16 N (nI to) 0 k (nI st.length) (nI pc) σ = some (0, σ')
  | some (e, st') => ∃ σ', L_Mo_comesTo_l16 N (nI to) 0 k (nI st.length) (nI pc) σ = L_Mo_comesTo_l16 N (nI to) 0 (k - m) (nI st'.length) (nI e) σ' ∧ SS (mI σ' 84) st'
theorem AdM.next {N to : Nat} {σ σ1 : Mem} {k pc pc1 m : Nat} {st st1 : List Int32} {r : Option (Nat × List Int32)} (h : AdM N to σ1 k pc1 m st1 r) (e : L_Mo_comesTo_l16 N (nI to) 0 (k + 1) (nI st.length) (nI pc) σ = L_Mo_comesTo_l16 N (nI to) 0 k (nI st1.length) (nI pc1) σ1) : AdM N to σ (k + 1) pc (m + 1) st r := by
  cases r with
  | none =>
    obtain ⟨σ', h1⟩ := h
    exact ⟨σ', e.trans h1⟩
  | some q =>
    obtain ⟨e', st'⟩ := q
    obtain ⟨σ', h1, h3⟩ := h
    refine ⟨σ', ?_, h3⟩
    rw [e, h1, show k + 1 - (m + 1) = k - m by omega]
theorem ad_m {N E : Nat} {F : FA} {cd : Nat → Int32} {r : Option (Nat × List Int32)} (hE : E < 260) : ∀ (m pc : Nat) (st : List Int32) (k : Nat) (σ : Mem), Run (DM cd) F E m pc st r → mI σ 79 = cd → (∀ j, j < 9 → mI σ 85 j = F j) → SS (mI σ 84) st → m ≤ k → AdM N E σ k pc m st r := by
  intro m
  induction m with
  | zero =>
    intro pc st k σ h hcd hF hS hk
    have h : r = some (pc, st) := h
    subst h
    exact ⟨σ, rfl, hS⟩
  | succ m ih =>
    intro pc st k σ h hcd hF hS hk
    obtain ⟨k, rfl⟩ : ∃ z, k = z + 1 := ⟨k - 1, by omega⟩
    obtain ⟨h1, h3, i, v, nx, ⟨hp, rfl, hD⟩, h⟩ := h
    rcases h with ⟨e, h⟩ | ⟨e, j, hj, hv, h⟩ | ⟨e, x, y, s, es, h⟩ | ⟨e, x, s, es, h⟩ | ⟨e, x, s, t, es, et, hx, h⟩
    · subst e
      have hD : ∃ k, k < 1048576 ∧ v = nI k ∧ cd pc = nI k := by simpa using hD
      obtain ⟨z, d1, d2, d3⟩ := hD
      have hr := mo_cnum (N := N) (k := k) (top := st.length) (σ := σ) h1 hE (by omega) d1 (by rw [hcd]; exact d3)
      rw [← d2] at hr
      exact AdM.next (ih (pc + 1) (v :: st) k _ h (by rw [mI_sIn _ _ _ (by decide)]; exact hcd) (fun j hj => by rw [mI_sIn _ _ _ (by decide)]; exact hF j hj) (by rw [mI_sI]; exact hS.push) (by omega)) hr
    · subst e
      have hD : ∃ j, j < 9 ∧ v = nI j ∧ cd pc = nI (1048576 * 1 + j) := by simpa using hD
      obtain ⟨j', d1, d2, d3⟩ := hD
      have hjj : j = j' := (nI_eq (by omega) (by omega)).mp (hv.symm.trans d2)
      subst hjj
      have hr := mo_cfact (N := N) (k := k) (top := st.length) (σ := σ) h1 hE (by omega) hj (by rw [hcd]; exact d3)
      rw [hF j hj] at hr
      exact AdM.next (ih (pc + 1) (F j :: st) k _ h (by rw [mI_sIn _ _ _ (by decide)]; exact hcd) (fun j hj => by rw [mI_sIn _ _ _ (by decide)]; exact hF j hj) (by rw [mI_sI]; exact hS.push) (by omega)) hr
    · subst e es
      have hD : ∃ o, 2 ≤ o ∧ o ≤ 9 ∧ v = chr o ∧ cd pc = nI (1048576 * o + 0) := by simpa using hD
      obtain ⟨o, d1, d2, rfl, d3⟩ := hD
      obtain ⟨s1, s2, s3⟩ := hS
      have s1 : mI σ 84 (s.length + 1) = y := s1
      rw [List.length_cons, List.length_cons] at h3
      rcases h with ⟨q1, q2, q3⟩ | ⟨q1, q2⟩
      · subst q3
        exact ⟨σ, mo_cref (N := N) (k := k) (t := s.length) h1 hE (by omega) d1 d2 (by rw [hcd]; exact d3) q1 (by rw [s1]; exact q2)⟩
      · have hr := mo_cop (N := N) (k := k) (t := s.length) (σ := σ) h1 hE (by omega) d1 d2 (by rw [hcd]; exact d3) (by rw [s1]; exact q1)
        rw [s1, s2] at hr
        exact AdM.next (ih (pc + 1) (rk (chr o) x y :: s) k _ q2 (by rw [mI_sIn _ _ _ (by decide)]; exact hcd) (fun j hj => by rw [mI_sIn _ _ _ (by decide)]; exact hF j hj) (by rw [mI_sI]; exact s3.push) (by omega)) hr
    · subst e es
      have hD : cd pc = nI (1048576 * 10 + 0) := by simpa using hD
      obtain ⟨s2, s3⟩ := hS
      rw [List.length_cons] at h3
      have hr := mo_cneg (N := N) (k := k) (t := s.length) (σ := σ) h1 hE (by omega) (by rw [hcd]; exact hD)
      rw [s2] at hr
      exact AdM.next (ih (pc + 1) ((1 - x) :: s) k _ h (by rw [mI_sIn _ _ _ (by decide)]; exact hcd) (fun j hj => by rw [mI_sIn _ _ _ (by decide)]; exact hF j hj) (by rw [mI_sI]; exact s3.push) (by omega)) hr
    · subst es
      have hD : ∃ o w tg, tg < 250 ∧ ((o = 11 ∧ w = 0) ∨ (o = 12 ∧ w = 1)) ∧ wt i = w ∧ v = nI tg ∧ cd pc = nI (1048576 * o + tg) := by
        rcases e with rfl | rfl
        · have hD : ∃ t, t < 250 ∧ v = nI t ∧ cd pc = nI (1048576 * 11 + t) := by simpa using hD
          obtain ⟨t', a1, a2, a3⟩ := hD
          exact ⟨11, 0, t', a1, Or.inl ⟨rfl, rfl⟩, rfl, a2, a3⟩
        · have hD : ∃ t, t < 250 ∧ v = nI t ∧ cd pc = nI (1048576 * 12 + t) := by simpa using hD
          obtain ⟨t', a1, a2, a3⟩ := hD
          exact ⟨12, 1, t', a1, Or.inr ⟨rfl, rfl⟩, rfl, a2, a3⟩
      obtain ⟨o, w, tg, d0, d2, d3, d4, d5⟩ := hD
      have hS' := hS
      obtain ⟨s2, s3⟩ := hS
      rw [List.length_cons] at h3
      have hr := mo_cjump (N := N) (k := k) (t := s.length) (σ := σ) (o := o) (tg := tg) (w := w) h1 hE (by omega) d2 (by omega) (by rw [hcd]; exact d5) (by rw [s2]; exact hx)
      rw [s2, ← d4, et] at hr
      rw [d3] at h
      rcases h with ⟨q1, q2⟩ | ⟨q1, q2⟩
      · rw [if_pos q1] at hr
        exact AdM.next (ih t (x :: s) k _ q2 hcd hF hS' (by omega)) hr
      · rw [if_neg q1] at hr
        exact AdM.next (ih (pc + 1) s k _ q2 hcd hF s3 (by omega)) hr
/-- the reference's machine over code that comes to g -/
theorem mo_run_sem {N : Nat} (hN : 1000 < N) {σ : Mem} {cd : Nat → Int32} {s e h : Nat} {g : DN} (H : SemX DM cd s e h g) (hcd : ∀ j, s ≤ j → j < e → mI σ 79 j = cd j) (hse : s ≤ e) (h1 : e < 260) (hh : h ≤ 32) {F : FA} (hF : ∀ j, j < 9 → mI σ 85 j = F j) : ∃ σ1, f_Mo_comesTo N σ (nI s) (nI e) = some ((g F).getD 0, σ1) := by
  obtain ⟨m, hm, hR⟩ := H (mI σ 79) hcd F [] (by simpa using hh)
  have hA := ad_m (N := N) h1 m s [] N σ hR rfl hF True.intro (by omega)
  have hb : (260 : Int32) * (nI s / 260) = 0 := by
    rw [show nI s / 260 = nI (s / 260) from pk_div (d := 260) (by omega) (by decide) (by decide), show s / 260 = 0 by omega]
    rfl
  unfold f_Mo_comesTo
  simp only [letv_n]
  rw [hb]
  cases hg : g F with
  | none =>
    rw [hg] at hA
    obtain ⟨σ', h2⟩ := hA
    exact ⟨σ', h2⟩
  | some v =>
    rw [hg] at hA
    obtain ⟨σ', h2, h4⟩ := hA
    refine ⟨σ', ?_⟩
    show L_Mo_comesTo_l16 N (nI e) 0 N (nI ([] : List Int32).length) (nI s) σ = _
    rw [h2, show N - m = (N - m - 1) + 1 by omega]
    show B_Mo_comesTo_l16 N _ _ _ _ _ σ' = _
    unfold B_Mo_comesTo_l16
    rw [if_pos (nI_le (Nat.le_refl e) (by omega))]
    have h5 : mI σ' 84 0 = v := h4.1
    simp only [bnd1_n, q5_n, if_true, h5]
    rfl
