-- ===== trees by years =====
def fTree (m z o : Int32) : FA := up1 (up1 (fHour 0 m) 7 z) 8 o
theorem fTree_at (m z o : Int32) (j : Nat) : fTree m z o j = if j = 8 then o else if j = 7 then z else fHour 0 m j := rfl
/-- how much a tree grows -/
def grI (W : LW) (m z o : Int32) : Int32 := minI (99 - z) (sval W.1 W.2.1 W.2.2.1 W.2.2.2 103 0 9 (fTree m z o))
theorem grow_ok (W : LW) (m o : Int32) {z : Nat} (h1 : 1 ≤ z) (h2 : z < 100) : ∃ g : Nat, grI W m (nI z) o = nI g ∧ z + g < 100 ∧ minI 99 (nI z + sval W.1 W.2.1 W.2.2.1 W.2.2.2 103 0 9 (fTree m (nI z) o)) = nI (z + g) := by
  obtain ⟨v, hv, ev⟩ := sval_in W.1 W.2.1 W.2.2.1 W.2.2.2 103 (hi := 9) (by decide) (fTree m (nI z) o)
  have ev' : sval W.1 W.2.1 W.2.2.1 W.2.2.2 103 0 9 (fTree m (nI z) o) = nI v := ev
  unfold grI minI
  rw [ev', show (99 : Int32) - nI z = nI (99 - z) from pk_sub (a := 99) (by omega), nI_add]
  by_cases c : v < 99 - z
  · rw [if_pos (nI_lt c (by omega)), if_pos (show nI (z + v) < 99 from nI_lt (b := 99) (by omega) (by decide))]
    exact ⟨v, rfl, by omega, rfl⟩
  · rw [if_neg (nI_nlt (by omega) (by omega)), if_neg (show ¬ nI (z + v) < 99 from nI_nlt (b := 99) (by omega) (by omega))]
    exact ⟨99 - z, rfl, by omega, by rw [show z + (99 - z) = 99 by omega]; rfl⟩
def isT (s : Int32) (k : Nat → Int32) (n c : Nat) : Bool := decide (c < n) && (stands s c && decide (k c = 1))
def yrZ (W : LW) (m : Int32) (T : Nat → Bool) (o Z : Nat → Int32) (c : Nat) : Int32 := if T c then Z c + grI W m (Z c) (o c) else Z c
def yrG (W : LW) (m : Int32) (T : Nat → Bool) (o Z : Nat → Int32) (c : Nat) : Int32 := if T c then grI W m (Z c) (o c) else 0
def ZOk (n : Nat) (Z : Nat → Int32) : Prop := ∀ c, c < n → ∃ z : Nat, 1 ≤ z ∧ z < 100 ∧ Z c = nI z
theorem yrZ_ok {W : LW} {m : Int32} {T : Nat → Bool} {o Z : Nat → Int32} {n : Nat} (h : ZOk n Z) : ZOk n (yrZ W m T o Z) := fun c hc => by
  obtain ⟨z, h1, h2, h3⟩ := h c hc
  unfold yrZ
  cases T c with
  | false => exact ⟨z, h1, h2, h3⟩
  | true =>
    obtain ⟨g, g1, g2, g3⟩ := grow_ok W m (o c) h1 h2
    refine ⟨z + g, by omega, g2, ?_⟩
    rw [if_pos rfl, h3, g1, nI_add]
section YearS
variable {N : Nat} {σ : Mem} {W : LW}
theorem la_askTree (hN : 100 < N) (m z o : Int32) : ∃ σ', f_La_askTree N σ m z o = some σ' ∧ TF σ' (fTree m z o) := by
  obtain ⟨s, p, t⟩ := la_askHour hN σ 0 m
  refine ⟨sI (sI s 8 7 z) 8 8 o, ?_, fun j hj => ?_⟩
  · unfold f_La_askTree
    rw [p]
    rfl
  · rw [rdI, rdI, fTree_at]
    by_cases e8 : j = 8
    · rw [if_pos ⟨rfl, e8⟩, if_pos e8]
    · rw [if_neg (fun z => e8 z.2), if_neg e8]
      by_cases e7 : j = 7
      · rw [if_pos ⟨rfl, e7⟩, if_pos e7]
      · rw [if_neg (fun z => e7 z.2), if_neg e7]
        exact t j hj
theorem sh_year {n : Nat} (hN : 1000 < N) (ok : LawOk W.1 W.2.2.1) (hc : LawC N σ W.1 W.2.1 W.2.2.1 W.2.2.2) (hn : n ≤ 16) (e6 : mI σ 19 6 = nI n) (hZ : ZOk n (mI σ 22)) : ∃ r, f_Sh_growTrees N σ = some r ∧ (r.1 = sumI (yrG W (mI σ 19 8) (isT (mI σ 19 7) (mI σ 20) n) (mI σ 24) (mI σ 22)) n ∧ mI r.2 22 = yrZ W (mI σ 19 8) (isT (mI σ 19 7) (mI σ 20) n) (mI σ 24) (mI σ 22) ∧ Fr [8, 9, 22] [] σ r.2) := by
  unfold f_Sh_growTrees
  refine loopR (L := fun k (x : Int32 × Int32 × Mem) => L_Sh_growTrees_l4 N k x.1 x.2.1 x.2.2) (P := fun i x => x.1 = sumI (yrG W (mI σ 19 8) (isT (mI σ 19 7) (mI σ 20) n) (mI σ 24) (mI σ 22)) i ∧ x.2.1 = nI i ∧ (∀ c, mI x.2.2 22 c = if c < i then yrZ W (mI σ 19 8) (isT (mI σ 19 7) (mI σ 20) n) (mI σ 24) (mI σ 22) c else mI σ 22 c) ∧ Fr [8, 9, 22] [] σ x.2.2) (a := (0, 0, σ)) n ?_ ?_ (by omega) ⟨rfl, rfl, fun c => by rw [if_neg (Nat.not_lt_zero c)], Fr.rf _ _ _⟩
  · rintro k i ⟨x, y, s⟩ hi ⟨h1, h2, h3, h4⟩
    have hx : x = _ := h1
    have hy : y = nI i := h2
    subst hx; subst hy
    change Fr _ _ σ s at h4
    change ∀ c, mI s 22 c = _ at h3
    have e6' : mI s 19 6 = nI n := (h4.I 19 6 (by decide) (by simp)).trans e6
    have z22 : mI s 22 i = mI σ 22 i := by rw [h3 i, if_neg (Nat.lt_irrefl i)]
    have g := inb_j (show i < 17 by omega) (show 17 < 2 ^ 31 by decide)
    have hcl : (nI i).toNatClampNeg = i := nI_clamp (by omega)
    obtain ⟨z, hz1, hz2, hz3⟩ := hZ i hi
    have eT : isT (mI σ 19 7) (mI σ 20) n i = (stands (mI σ 19 7) i && decide (mI σ 20 i = 1)) := by
      unfold isT
      simp [hi]
    right
    show ∃ a' : Int32 × Int32 × Mem, B_Sh_growTrees_l4 N (L_Sh_growTrees_l4 N k) _ (nI i) s = L_Sh_growTrees_l4 N k a'.1 a'.2.1 a'.2.2 ∧ _
    unfold B_Sh_growTrees_l4
    rw [e6', if_neg (nI_ge hi (by omega)), to_isStOf hn e6' hi, h4.I 19 7 (by decide) (by simp), h4.I 20 i (by decide) (by simp)]
    simp only [bnd1_s, letv, nI_1]
    by_cases c : stands (mI σ 19 7) i = true ∧ mI σ 20 i = 1
    · rw [if_pos c, if_neg ne10, grd_t g, grd_t g, hcl, h4.I 19 8 (by decide) (by simp), h4.I 24 i (by decide) (by simp), z22]
      obtain ⟨s1, p1, t1⟩ := la_askTree (N := N) (σ := s) (by omega) (mI σ 19 8) (mI σ 22 i) (mI σ 24 i)
      have F1 : Fr [8] [] s s1 := by
        have h := p1
        unfold f_La_askTree at h
        obtain ⟨s0, q1, h⟩ := bnd1_e h
        have F0 := fm_La_askHour q1
        cases h
        exact (F0.aI rfl (by decide)).aI rfl (by decide)
      have F01 : Fr [8, 9, 22] [] σ s1 := h4.c F1 (by decide) (by simp)
      obtain ⟨⟨r2, s2⟩, p2, v2⟩ := la_value (N := N) (σ := s1) (by omega) ok (hc.k (F01.keeps (by decide))) (Fr.rf _ _ s1) t1 (l := 103) (lo := 0) (hi := 9) (by decide) (by decide)
      change r2 = _ at v2
      have F2 := fm_La_valueOf p2
      have y22 : mI s1 22 i = mI σ 22 i := (F1.I 22 i (by decide) (by simp)).trans z22
      have y22' : mI s2 22 i = mI σ 22 i := (F2.I 22 i (by decide) (by simp)).trans y22
      obtain ⟨gg, g1, g2, g3⟩ := grow_ok W (mI σ 19 8) (mI σ 24 i) hz1 hz2
      rw [← hz3] at g1 g3
      rw [p1]
      simp only [bnd1_s]
      rw [grd_t g, p2]
      simp only [bnd2_s]
      rw [y22, v2, jm_min, g3]
      simp only [bnd1_s]
      rw [grd_t g, y22', grd_t g]
      refine ⟨(_, _, sI s2 22 i (nI (z + gg))), rfl, ?_, rfl, fun d => ?_, (F01.c F2 (by decide) (by simp)).aI rfl (by decide)⟩
      · rw [sumI_succ]
        show _ + (nI (z + gg) - mI σ 22 i) = _ + yrG _ _ _ _ _ i
        unfold yrG
        rw [eT, c.1, c.2, g1, hz3, pk_sub (by omega), show z + gg - z = gg by omega]
        rfl
      · show mI (sI s2 22 i (nI (z + gg))) 22 d = _
        rw [rdI]
        by_cases e : d = i
        · subst e
          rw [if_pos ⟨rfl, rfl⟩, if_pos (by omega)]
          unfold yrZ
          rw [eT, c.1, c.2, g1, hz3, nI_add]
          rfl
        · rw [if_neg (fun z => e z.2), F2.I 22 d (by decide) (by simp), F1.I 22 d (by decide) (by simp), h3 d]
          by_cases q : d < i
          · rw [if_pos q, if_pos (by omega)]
          · rw [if_neg q, if_neg (by omega)]
    · have eT' : isT (mI σ 19 7) (mI σ 20) n i = false := by
        rw [eT]
        by_cases q : stands (mI σ 19 7) i = true
        · simp [q, show ¬ mI σ 20 i = 1 from fun z => c ⟨q, z⟩]
        · simp [q]
      rw [if_neg c, if_pos rfl]
      refine ⟨(_, _, s), rfl, ?_, rfl, fun d => ?_, h4⟩
      · rw [sumI_succ]
        unfold yrG
        rw [eT', if_neg f10, Int32.add_zero]
      · show mI s 22 d = _
        rw [h3 d]
        by_cases e : d = i
        · subst e
          rw [if_neg (Nat.lt_irrefl d), if_pos (by omega)]
          unfold yrZ
          rw [eT', if_neg f10]
        · by_cases q : d < i
          · rw [if_pos q, if_pos (by omega)]
          · rw [if_neg q, if_neg (by omega)]
  · rintro k ⟨x, y, s⟩ ⟨h1, h2, h3, h4⟩
    have hy : y = nI n := h2
    subst hy
    change Fr _ _ σ s at h4
    refine ⟨(x, s), ?_, h1, funext fun c => ?_, h4⟩
    · show B_Sh_growTrees_l4 N (L_Sh_growTrees_l4 N k) x (nI n) s = _
      unfold B_Sh_growTrees_l4
      rw [h4.I 19 6 (by decide) (by simp), e6, if_pos (nI_le (Nat.le_refl _) (by omega))]
    · show mI s 22 c = _
      rw [h3 c]
      by_cases q : c < n
      · rw [if_pos q]
      · rw [if_neg q]
        unfold yrZ isT
        simp [q]
theorem mo_year {n : Nat} (hN : 1000 < N) (ok : LawOk W.1 W.2.2.1) (hm : LawM N σ W.1 W.2.1 W.2.2.1 W.2.2.2) (hn : n ≤ 16) (e0 : mI σ 65 0 = nI n) : ∃ r, f_Mo_year N σ = some r ∧ (r.1 = sumI (yrG W (mI σ 65 2) (isT (mI σ 65 1) (mI σ 66) n) (mI σ 70) (mI σ 68)) n ∧ mI r.2 68 = yrZ W (mI σ 65 2) (isT (mI σ 65 1) (mI σ 66) n) (mI σ 70) (mI σ 68) ∧ Fr [68, 84, 85, 109] [] σ r.2) := by
  obtain ⟨s4, p4, v4, F4⟩ : ∃ s, L_Mo_year_l4 N 0 N 0 σ = some s ∧ ((∀ c, c < n → mI s 109 c = yrG W (mI σ 65 2) (isT (mI σ 65 1) (mI σ 66) n) (mI σ 70) (mI σ 68) c) ∧ Fr [84, 85, 109] [] σ s) := by
    refine loopR (L := fun k (x : Int32 × Mem) => L_Mo_year_l4 N 0 k x.1 x.2) (P := fun i x => x.1 = nI i ∧ (∀ c, c < i → mI x.2 109 c = yrG W (mI σ 65 2) (isT (mI σ 65 1) (mI σ 66) n) (mI σ 70) (mI σ 68) c) ∧ Fr [84, 85, 109] [] σ x.2) (a := (0, σ)) n ?_ ?_ (by omega) ⟨rfl, fun c hc => absurd hc (Nat.not_lt_zero c), Fr.rf _ _ _⟩
    · rintro k i ⟨x, s⟩ hi ⟨h1, h2, h3⟩
      have hx : x = nI i := h1
      subst hx
      change Fr _ _ σ s at h3
      change ∀ c, c < i → mI s 109 c = _ at h2
      have g := inb_j (show i < 17 by omega) (show 17 < 2 ^ 31 by decide)
      have hcl : (nI i).toNatClampNeg = i := nI_clamp (by omega)
      have eT : isT (mI σ 65 1) (mI σ 66) n i = (stands (mI σ 65 1) i && decide (mI σ 66 i = 1)) := by
        unfold isT
        simp [hi]
      have F18 : Fr [84, 85, 109] [] σ (sI s 109 i 0) := h3.aI rfl (by decide)
      right
      show ∃ a' : Int32 × Mem, B_Mo_year_l4 N 0 (L_Mo_year_l4 N 0 k) (nI i) s = L_Mo_year_l4 N 0 k a'.1 a'.2 ∧ _
      unfold B_Mo_year_l4
      rw [h3.I 65 0 (by decide) (by simp), e0, if_neg (nI_ge hi (by omega)), grd_t g, hcl]
      simp only [letv, nI_1]
      rw [F18.I 65 1 (by decide) (by simp), mo_has, F18.I 66 i (by decide) (by simp)]
      simp only [bnd1_s, grd_t g]
      have hrest : ∀ (s' : Mem) (v : Int32), v = yrG W (mI σ 65 2) (isT (mI σ 65 1) (mI σ 66) n) (mI σ 70) (mI σ 68) i → mI s' 109 i = v → (∀ c, c ≠ i → mI s' 109 c = mI s 109 c) → ∀ c, c < i + 1 → mI s' 109 c = yrG W (mI σ 65 2) (isT (mI σ 65 1) (mI σ 66) n) (mI σ 70) (mI σ 68) c := fun s' v hv q1 q2 c hc => by
        by_cases e : c = i
        · subst e; rw [q1, hv]
        · rw [q2 c e]; exact h2 c (by omega)
      by_cases c1 : stands (mI σ 65 1) i = true
      · rw [if_pos c1, if_neg ne10]
        by_cases c2 : mI σ 66 i = 1
        · rw [if_pos c2]
          obtain ⟨s1, p1, t1⟩ := mo_feels (N := N) (by omega) (sI s 109 i 0) 0
          have F1 := fm_Mo_feels p1
          rw [F18.I 65 2 (by decide) (by simp)] at t1
          have F01 : Fr [84, 85, 109] [] σ s1 := F18.c F1 (by decide) (by simp)
          have z68 : mI s1 68 i = mI σ 68 i := F01.I 68 i (by decide) (by simp)
          have z70 : mI (sI s1 85 7 (mI σ 68 i)) 70 i = mI σ 70 i := (sI_n _ _ (by omega)).trans (F01.I 70 i (by decide) (by simp))
          have F02 : Fr [84, 85, 109] [] σ (sI (sI s1 85 7 (mI σ 68 i)) 85 8 (mI σ 70 i)) := (F01.aI (σ2 := sI s1 85 7 (mI σ 68 i)) rfl (by decide)).aI rfl (by decide)
          have t2 : FF (sI (sI s1 85 7 (mI σ 68 i)) 85 8 (mI σ 70 i)) (fTree (mI σ 65 2) (mI σ 68 i) (mI σ 70 i)) := fun j hj => by
            rw [rdI, rdI, fTree_at]
            by_cases e8 : j = 8
            · rw [if_pos ⟨rfl, e8⟩, if_pos e8]
            · rw [if_neg (fun z => e8 z.2), if_neg e8]
              by_cases e7 : j = 7
              · rw [if_pos ⟨rfl, e7⟩, if_pos e7]
              · rw [if_neg (fun z => e7 z.2), if_neg e7]
                exact t1 j hj
          obtain ⟨⟨r2, s2⟩, p2, v2⟩ := mo_byLaw (N := N) (σ := sI (sI s1 85 7 (mI σ 68 i)) 85 8 (mI σ 70 i)) (by omega) ok (hm.k (F02.keeps (by decide))) (Fr.rf _ _ _) t2 (l := 103) (lo := 0) (hi := 9) (by decide)
          change r2 = _ at v2
          have F2 := fm_Mo_byLaw p2
          have w68 : mI (sI (sI s1 85 7 (mI σ 68 i)) 85 8 (mI σ 70 i)) 68 i = mI σ 68 i := F02.I 68 i (by decide) (by simp)
          rw [p1]
          simp only [bnd1_s]
          rw [z68, z70, p2]
          simp only [bnd2_s]
          rw [w68, v2, mo_min]
          simp only [bnd1_s]
          refine ⟨(_, sI s2 109 i (grI W (mI σ 65 2) (mI σ 68 i) (mI σ 70 i))), rfl, rfl, ?_, (F02.c F2 (by decide) (by simp)).aI rfl (by decide)⟩
          refine hrest _ (grI W (mI σ 65 2) (mI σ 68 i) (mI σ 70 i)) ?_ (sI_s _ _ _ _) (fun c hc => ?_)
          · unfold yrG
            rw [eT, c1, c2]
            rfl
          · show mI (sI s2 109 i _) 109 c = _
            rw [sI_n _ _ (by omega), F2.I 109 c (by decide) (by simp), sI_n _ _ (by omega), sI_n _ _ (by omega), F1.I 109 c (by decide) (by simp), sI_n _ _ (by omega)]
        · rw [if_neg c2]
          refine ⟨(_, _), rfl, rfl, hrest _ 0 ?_ (sI_s _ _ _ _) (fun c hc => sI_n _ _ (by omega)), F18⟩
          unfold yrG
          rw [eT]
          simp [c2]
      · rw [if_neg c1, if_pos rfl]
        refine ⟨(_, _), rfl, rfl, hrest _ 0 ?_ (sI_s _ _ _ _) (fun c hc => sI_n _ _ (by omega)), F18⟩
        unfold yrG
        rw [eT]
        simp [c1]
    · rintro k ⟨x, s⟩ ⟨h1, h2, h3⟩
      have hx : x = nI n := h1
      subst hx
      refine ⟨s, ?_, h2, h3⟩
      show B_Mo_year_l4 N 0 (L_Mo_year_l4 N 0 k) (nI n) s = _
      unfold B_Mo_year_l4
      change Fr _ _ σ s at h3
      rw [h3.I 65 0 (by decide) (by simp), e0, if_pos (nI_le (Nat.le_refl _) (by omega))]
  unfold f_Mo_year
  rw [p4]
  simp only [bnd1_s]
  have r68 : mI s4 68 = mI σ 68 := F4.rowI 68 (by decide) (by simp)
  refine loopR (L := fun k (x : Int32 × Int32 × Mem) => L_Mo_year_l109 N k x.1 x.2.1 x.2.2) (P := fun i x => x.1 = sumI (yrG W (mI σ 65 2) (isT (mI σ 65 1) (mI σ 66) n) (mI σ 70) (mI σ 68)) i ∧ x.2.1 = nI i ∧ (∀ c, mI x.2.2 68 c = if c < i then yrZ W (mI σ 65 2) (isT (mI σ 65 1) (mI σ 66) n) (mI σ 70) (mI σ 68) c else mI σ 68 c) ∧ Fr [68] [] s4 x.2.2) (a := (0, 0, s4)) n ?_ ?_ (by omega) ⟨rfl, rfl, fun c => by rw [if_neg (Nat.not_lt_zero c)]; exact congrFun r68 c, Fr.rf _ _ _⟩
  · rintro k i ⟨x, y, s⟩ hi ⟨h1, h2, h3, h4⟩
    have hx : x = _ := h1
    have hy : y = nI i := h2
    subst hx; subst hy
    change Fr _ _ s4 s at h4
    change ∀ c, mI s 68 c = _ at h3
    have g := inb_j (show i < 17 by omega) (show 17 < 2 ^ 31 by decide)
    have hcl : (nI i).toNatClampNeg = i := nI_clamp (by omega)
    have z68 : mI s 68 i = mI σ 68 i := by rw [h3 i, if_neg (Nat.lt_irrefl i)]
    have z109 : mI s 109 i = yrG W (mI σ 65 2) (isT (mI σ 65 1) (mI σ 66) n) (mI σ 70) (mI σ 68) i := (h4.I 109 i (by decide) (by simp)).trans (v4 i hi)
    have hyz : mI σ 68 i + yrG W (mI σ 65 2) (isT (mI σ 65 1) (mI σ 66) n) (mI σ 70) (mI σ 68) i = yrZ W (mI σ 65 2) (isT (mI σ 65 1) (mI σ 66) n) (mI σ 70) (mI σ 68) i := by
      unfold yrG yrZ
      cases isT (mI σ 65 1) (mI σ 66) n i with
      | true => rfl
      | false => exact Int32.add_zero _
    refine Or.inr ⟨(sumI (yrG W (mI σ 65 2) (isT (mI σ 65 1) (mI σ 66) n) (mI σ 70) (mI σ 68)) (i + 1), nI (i + 1), sI s 68 i (yrZ W (mI σ 65 2) (isT (mI σ 65 1) (mI σ 66) n) (mI σ 70) (mI σ 68) i)), ?_, rfl, rfl, fun d => ?_, h4.aI rfl (by decide)⟩
    · show B_Mo_year_l109 N (L_Mo_year_l109 N k) _ (nI i) s = _
      unfold B_Mo_year_l109
      rw [h4.I 65 0 (by decide) (by simp), F4.I 65 0 (by decide) (by simp), e0, if_neg (nI_ge hi (by omega)), grd_t g, grd_t g, grd_t g, hcl, z68, z109, hyz]
      simp only [letv, nI_1, grd_t g]
      rw [sI_n _ _ (by omega), z109]
      rfl
    · show mI (sI s 68 i _) 68 d = _
      rw [rdI]
      by_cases e : d = i
      · subst e
        rw [if_pos ⟨rfl, rfl⟩, if_pos (by omega)]
      · rw [if_neg (fun z => e z.2), h3 d]
        by_cases q : d < i
        · rw [if_pos q, if_pos (by omega)]
        · rw [if_neg q, if_neg (by omega)]
  · rintro k ⟨x, y, s⟩ ⟨h1, h2, h3, h4⟩
    have hy : y = nI n := h2
    subst hy
    change Fr _ _ s4 s at h4
    refine ⟨(x, s), ?_, h1, funext fun c => ?_, (F4.mono (by decide) (by simp)).c h4 (by decide) (by simp)⟩
    · show B_Mo_year_l109 N (L_Mo_year_l109 N k) x (nI n) s = _
      unfold B_Mo_year_l109
      rw [h4.I 65 0 (by decide) (by simp), F4.I 65 0 (by decide) (by simp), e0, if_pos (nI_le (Nat.le_refl _) (by omega))]
    · show mI s 68 c = _
      rw [h3 c]
      by_cases q : c < n
      · rw [if_pos q]
      · rw [if_neg q]
        unfold yrZ isT
        simp [q]
end YearS
def yrI (W : LW) (m : Int32) (T : Nat → Bool) (o Z : Nat → Int32) : Nat → Nat → Int32
  | 0 => Z
  | k + 1 => yrZ W m T o (yrI W m T o Z k)
theorem yrI_ok {W : LW} {m : Int32} {T : Nat → Bool} {o Z : Nat → Int32} {n : Nat} (h : ZOk n Z) : ∀ k, ZOk n (yrI W m T o Z k) := by
  intro k
  induction k with
  | zero => exact h
  | succ k ih => exact yrZ_ok ih
theorem yrI_congr {W : LW} {m : Int32} {T T' : Nat → Bool} {o o' Z Z' : Nat → Int32} (h : ∀ c, c < 16 → T c = T' c ∧ o c = o' c ∧ Z c = Z' c) : ∀ k c, c < 16 → yrI W m T o Z k c = yrI W m T' o' Z' k c := by
  intro k
  induction k with
  | zero => intro c hc; exact (h c hc).2.2
  | succ k ih =>
    intro c hc
    show yrZ W m T o (yrI W m T o Z k) c = yrZ W m T' o' (yrI W m T' o' Z' k) c
    unfold yrZ
    rw [(h c hc).1, (h c hc).2.1, ih c hc]
theorem st_years {N : Nat} (hN : 70000 ≤ N) : St_years N := by
  intro σ a1 hI
  unfold f_Sh_years f_Mo_years
  rcases in1_cases a1 1 60 (by decide) (by decide) with g | ⟨g, d, hd1, hd2, rfl⟩
  · have g0 : f_Mo_in a1 1 60 = some 0 := g
    refine ⟨-1, σ, σ, ?_, by rw [g0]; rfl, hI⟩
    rw [mo_in] at g0
    by_cases c1 : a1 < 1
    · rw [if_pos c1]
    · rw [if_neg c1]
      by_cases c2 : 60 < a1
      · rw [if_neg (Int32.not_le.mpr c2)]
      · rw [if_neg c1, if_neg c2] at g0
        exact absurd g0 (by decide)
  have g : f_Mo_in (nI d) 1 60 = some 1 := g
  rw [if_neg (show ¬ nI d < 1 from nI_nlt (b := 1) hd1 (by omega)), if_pos (show nI d ≤ 60 from nI_le (b := 60) hd2 (by decide)), g]
  simp only [bnd1_s, if_neg ne10]
  have hI' := hI
  obtain ⟨nt, hnt, e6, e0, e1, e2, e3, ec, hzz, hT⟩ := hI.mtown
  obtain ⟨⟨k01, n', s', q1, q2, q3', q4, q5, q6, q7⟩, k1, k2, k3, k4, k5, n, lt, Hs, Vs, ok, hc, hm, hday⟩ := hI'
  have hnn : n' = nt := (nI_eq (by omega) (by omega)).mp (q3'.symm.trans e6)
  subst hnn
  have hZ : ZOk n' (mI σ 22) := fun c hc => (q7 c hc).2.2.1
  obtain ⟨W, hW⟩ : ∃ W : LW, W = (n, lt, Hs, Vs) := ⟨_, rfl⟩
  have ok' : LawOk W.1 W.2.2.1 := by rw [hW]; exact ok
  have hc' : LawC N σ W.1 W.2.1 W.2.2.1 W.2.2.2 := by rw [hW]; exact hc
  have hm' : LawM N σ W.1 W.2.1 W.2.2.1 W.2.2.2 := by rw [hW]; exact hm
  obtain ⟨T, hTT⟩ : ∃ T, T = isT (mI σ 19 7) (mI σ 20) n' := ⟨_, rfl⟩
  obtain ⟨r, p1, v1, z1, F1, f1⟩ : ∃ r, L_Sh_years_l17 N (nI d) N 0 0 σ = some r ∧ (r.1 = sumI (fun k => sumI (yrG W (mI σ 19 8) T (mI σ 24) (yrI W (mI σ 19 8) T (mI σ 24) (mI σ 22) k)) n') d ∧ mI r.2 22 = yrI W (mI σ 19 8) T (mI σ 24) (mI σ 22) d ∧ Fr [8, 9, 22] [(33, 9)] σ r.2 ∧ mI r.2 33 9 = 0) := by
    refine loopR (L := fun k (x : Int32 × Int32 × Mem) => L_Sh_years_l17 N (nI d) k x.1 x.2.1 x.2.2) (P := fun i x => x.1 = sumI (fun k => sumI (yrG W (mI σ 19 8) T (mI σ 24) (yrI W (mI σ 19 8) T (mI σ 24) (mI σ 22) k)) n') i ∧ x.2.1 = nI i ∧ mI x.2.2 22 = yrI W (mI σ 19 8) T (mI σ 24) (mI σ 22) i ∧ Fr [8, 9, 22] [] σ x.2.2) (a := (0, 0, σ)) d ?_ ?_ (by omega) ⟨rfl, rfl, rfl, Fr.rf _ _ _⟩
    · rintro k i ⟨x, y, s⟩ hi ⟨h1, h2, h3, h4⟩
      have hx : x = _ := h1
      have hy : y = nI i := h2
      subst hx; subst hy
      change Fr _ _ σ s at h4
      change mI s 22 = _ at h3
      obtain ⟨⟨r', s2⟩, p, v, z, F⟩ := sh_year (N := N) (σ := s) (W := W) (n := n') (by omega) ok' (hc'.k (h4.keeps (by decide))) q1 ((h4.I 19 6 (by decide) (by simp)).trans e6) (by rw [h3]; exact yrI_ok hZ i)
      change r' = _ at v
      change mI s2 22 = _ at z
      change Fr _ _ s s2 at F
      rw [h4.I 19 8 (by decide) (by simp), h4.I 19 7 (by decide) (by simp), h4.rowI 20 (by decide) (by simp), h4.rowI 24 (by decide) (by simp), h3, ← hTT] at v z
      refine Or.inr ⟨(_, nI (i + 1), s2), ?_, rfl, rfl, z, h4.t F⟩
      show B_Sh_years_l17 N (nI d) (L_Sh_years_l17 N (nI d) k) _ (nI i) s = _
      unfold B_Sh_years_l17
      rw [if_neg (nI_ge hi (by omega)), p]
      simp only [bnd2_s, letv, nI_1]
      rw [v]
    · rintro k ⟨x, y, s⟩ ⟨h1, h2, h3, h4⟩
      have hy : y = nI d := h2
      subst hy
      change Fr _ _ σ s at h4
      refine ⟨(x, sI s 33 9 0), ?_, h1, h3, (h4.mono (fun _ z => z) (by simp)).fI rfl (by decide), sI_s _ _ _ _⟩
      show B_Sh_years_l17 N (nI d) (L_Sh_years_l17 N (nI d) k) x (nI d) s = _
      unfold B_Sh_years_l17
      rw [if_pos (nI_le (Nat.le_refl _) (by omega))]
      rfl
  obtain ⟨r1, σ1⟩ := r
  change r1 = _ at v1
  change mI σ1 22 = _ at z1
  change Fr _ _ σ σ1 at F1
  change mI σ1 33 9 = 0 at f1
  obtain ⟨Tm, hTm⟩ : ∃ T, T = isT (mI σ 65 1) (mI σ 66) n' := ⟨_, rfl⟩
  obtain ⟨⟨r2, σ2⟩, p2, v2, z2, F2⟩ : ∃ r, L_Mo_years_l16 N (nI d) N 0 0 σ1 = some r ∧ (r.1 = sumI (fun k => sumI (yrG W (mI σ 65 2) Tm (mI σ 70) (yrI W (mI σ 65 2) Tm (mI σ 70) (mI σ 68) k)) n') d ∧ mI r.2 68 = yrI W (mI σ 65 2) Tm (mI σ 70) (mI σ 68) d ∧ Fr [68, 84, 85, 109] [] σ1 r.2) := by
    refine loopR (L := fun k (x : Int32 × Int32 × Mem) => L_Mo_years_l16 N (nI d) k x.1 x.2.1 x.2.2) (P := fun i x => x.1 = sumI (fun k => sumI (yrG W (mI σ 65 2) Tm (mI σ 70) (yrI W (mI σ 65 2) Tm (mI σ 70) (mI σ 68) k)) n') i ∧ x.2.1 = nI i ∧ mI x.2.2 68 = yrI W (mI σ 65 2) Tm (mI σ 70) (mI σ 68) i ∧ Fr [68, 84, 85, 109] [] σ1 x.2.2) (a := (0, 0, σ1)) d ?_ ?_ (by omega) ⟨rfl, rfl, F1.rowI 68 (by decide) (by decide), Fr.rf _ _ _⟩
    · rintro k i ⟨x, y, s⟩ hi ⟨h1, h2, h3, h4⟩
      have hx : x = _ := h1
      have hy : y = nI i := h2
      subst hx; subst hy
      change Fr _ _ σ1 s at h4
      change mI s 68 = _ at h3
      have F01 : Fr [8, 9, 22, 68, 84, 85, 109] [(33, 9)] σ s := (F1.mono (by decide) (fun _ z => z)).c h4 (by decide) (by simp)
      obtain ⟨⟨r', s2⟩, p, v, z, F⟩ := mo_year (N := N) (σ := s) (W := W) (n := n') (by omega) ok' (hm'.k (F01.keeps (by decide))) q1 ((F01.I 65 0 (by decide) (by decide)).trans e0)
      change r' = _ at v
      change mI s2 68 = _ at z
      change Fr _ _ s s2 at F
      rw [F01.I 65 2 (by decide) (by decide), F01.I 65 1 (by decide) (by decide), F01.rowI 66 (by decide) (by decide), F01.rowI 70 (by decide) (by decide), h3, ← hTm] at v z
      refine Or.inr ⟨(_, nI (i + 1), s2), ?_, rfl, rfl, z, h4.t F⟩
      show B_Mo_years_l16 N (nI d) (L_Mo_years_l16 N (nI d) k) _ (nI i) s = _
      unfold B_Mo_years_l16
      rw [if_neg (nI_ge hi (by omega)), p]
      simp only [bnd2_s, letv, nI_1]
      rw [v]
    · rintro k ⟨x, y, s⟩ ⟨h1, h2, h3, h4⟩
      have hy : y = nI d := h2
      subst hy
      refine ⟨(x, s), ?_, h1, h3, h4⟩
      show B_Mo_years_l16 N (nI d) (L_Mo_years_l16 N (nI d) k) x (nI d) s = _
      unfold B_Mo_years_l16
      rw [if_pos (nI_le (Nat.le_refl _) (by omega))]
  change r2 = _ at v2
  change mI σ2 68 = _ at z2
  change Fr _ _ σ1 σ2 at F2
  have hcc : ∀ c, c < 16 → Tm c = T c ∧ mI σ 70 c = mI σ 24 c ∧ mI σ 68 c = mI σ 22 c := fun c hc => by
    refine ⟨?_, (ec c hc).2.2.2.2, (ec c hc).2.2.1⟩
    rw [hTm, hTT]
    unfold isT
    rw [e1, (ec c hc).1]
  have hyc := yrI_congr (W := W) (m := mI σ 19 8) hcc
  rw [e2] at v2 z2
  have hr : r2 = r1 := by
    rw [v2, v1]
    refine sumI_congr d (fun k _ => sumI_congr n' (fun c hc => ?_))
    unfold yrG
    rw [(hcc c (by omega)).1, (hcc c (by omega)).2.1, hyc k c (by omega)]
  subst hr
  have F12 : Fr [8, 9, 22, 68, 84, 85, 109] [(33, 9)] σ σ2 := (F1.mono (by decide) (fun _ z => z)).c F2 (by decide) (by simp)
  have z12 : mI σ2 22 = yrI W (mI σ 19 8) T (mI σ 24) (mI σ 22) d := (F2.rowI 22 (by decide) (by simp)).trans z1
  refine ⟨r2, σ1, σ2, p1, p2, ⟨⟨?_, ?_⟩, k1.k (F12.keeps (by decide)), k2.k (F12.keeps (by decide)), k3.k (F12.keeps (by decide)), k4.k (F12.keeps (by decide)), k5.k (F12.keeps (by decide)), ILaw.offS hI.2.2.2.2.2.2 (F12.keeps (by decide)) ((F2.I 33 9 (by decide) (by simp)).trans f1)⟩⟩
  · obtain ⟨t1, t2, t3, t4, t5, t6⟩ := k01
    unfold tc tm
    rw [F12.I 19 6 (by decide) (by decide), F12.I 19 7 (by decide) (by decide), F12.I 19 8 (by decide) (by decide), F12.I 19 9 (by decide) (by decide), F12.I 65 0 (by decide) (by decide), F12.I 65 1 (by decide) (by decide), F12.I 65 2 (by decide) (by decide), F12.I 65 3 (by decide) (by decide), F12.rowI 20 (by decide) (by decide), F12.rowI 21 (by decide) (by decide), F12.rowI 23 (by decide) (by decide), F12.rowI 24 (by decide) (by decide), F12.rowI 25 (by decide) (by decide), F12.rowI 66 (by decide) (by decide), F12.rowI 67 (by decide) (by decide), F12.rowI 69 (by decide) (by decide), F12.rowI 70 (by decide) (by decide), F12.rowI 71 (by decide) (by decide), z12, z2]
    refine ⟨t1, t2, t3, t4, fun c hc => ?_, t6⟩
    obtain ⟨a1, a2, a3, a4, a5⟩ := t5 c hc
    exact ⟨a1, a2, (hyc d c hc).symm, a4, a5⟩
  · unfold tc
    rw [F12.I 19 6 (by decide) (by decide), F12.I 19 7 (by decide) (by decide), F12.I 19 8 (by decide) (by decide), F12.I 19 9 (by decide) (by decide), F12.rowI 20 (by decide) (by decide), F12.rowI 21 (by decide) (by decide), F12.rowI 23 (by decide) (by decide), F12.rowI 24 (by decide) (by decide), F12.rowI 25 (by decide) (by decide), z12]
    refine ⟨n', s', q1, q2, q3', q4, q5, q6, fun c hc => ?_⟩
    obtain ⟨a1, a2, a3, a4, a5⟩ := q7 c hc
    exact ⟨a1, a2, yrI_ok hZ d c hc, a4, a5⟩
