-- ===== the sky is known =====
theorem bit1 {r : Int32} (h : r = 0 ∨ r = 1) : r &&& 1 = r := by
  rcases h with h | h <;> rw [h] <;> decide
theorem sup01 (n : Nat) (lt : Nat → Int32) (Hs : Nat → FA → Int32) (F : FA) : sup n lt Hs F = 0 ∨ sup n lt Hs F = 1 := by
  unfold sup
  by_cases h : firstQ n lt Hs 117 F < n
  · rw [if_pos h]; exact Or.inr rfl
  · rw [if_neg h]; exact Or.inl rfl
theorem TF.k {σ σ' : Mem} {A : FA} (h : TF σ A) (e : mI σ' 8 = mI σ 8) : TF σ' A := fun j hj => by rw [e]; exact h j hj
theorem FF.k {σ σ' : Mem} {A : FA} (h : FF σ A) (e : mI σ' 85 = mI σ 85) : FF σ' A := fun j hj => by rw [e]; exact h j hj
theorem da_knowSky {N : Nat} {σ : Mem} {n : Nat} {lt : Nat → Int32} {Hs Vs : Nat → FA → Int32} (hN : 100 < N) (ok : LawOk n Hs) (hc : LawC N σ n lt Hs Vs) : ∃ σ', f_Da_knowSky N σ = some σ' ∧ SkyOk σ' n lt Hs Vs ∧ mI σ' 33 6 = 1 := by
  unfold f_Da_knowSky
  refine loopR (L := fun k (a : Int32 × Mem) => L_Da_knowSky_l2 N k a.1 a.2) (P := fun i a => a.1 = nI i ∧ Fr [8, 9, 34, 35, 36, 37] [] σ a.2 ∧ ∀ h, h < i → mI a.2 34 h = sup n lt Hs (fHour (nI h) (mI σ 19 8)) ∧ mI a.2 35 h = sval n lt Hs Vs 101 (-9) 9 (fHour (nI h) (mI σ 19 8)) ∧ mI a.2 36 h = sval n lt Hs Vs 110 (-9) 9 (fHour (nI h) (mI σ 19 8)) ∧ mI a.2 37 h = sval n lt Hs Vs 99 0 10 (fHour (nI h) (mI σ 19 8))) (a := (0, σ)) 24 ?_ ?_ (by omega) ⟨rfl, Fr.rf _ _ _, fun h hh => absurd hh (Nat.not_lt_zero h)⟩
  · rintro k i ⟨x, s⟩ hi ⟨h1, h2, h3⟩
    have hx : x = nI i := h1
    subst hx
    have es : mI s 19 8 = mI σ 19 8 := h2.I 19 8 (by decide) (by simp)
    obtain ⟨s1, p1, t1⟩ := la_askHour hN s (nI i) (mI σ 19 8)
    have f1 := fm_La_askHour p1
    have F1 : Fr [8, 9, 34, 35, 36, 37] [] σ s1 := h2.c f1 (by decide) (by simp)
    obtain ⟨⟨r2, s2⟩, p2, v2⟩ := la_any hN ok (hc.k (F1.keeps (by decide))) (Fr.rf _ _ s1) t1
    change r2 = _ at v2
    have f2 := fm_La_anyHolds p2
    have t2 : TF s2 _ := t1.k (f2.rowI 8 (by decide) (by simp))
    have F2 : Fr [8, 9, 34, 35, 36, 37] [] σ (sI s2 34 i r2) := (F1.c f2 (by decide) (by simp)).aI rfl (by decide)
    have t2' : TF (sI s2 34 i r2) _ := t2.k rfl
    obtain ⟨⟨r3, s3⟩, p3, v3⟩ := la_value hN ok (hc.k (F2.keeps (by decide))) (Fr.rf _ _ (sI s2 34 i r2)) t2' (l := 101) (lo := -9) (hi := 9) (by decide) (by decide)
    change r3 = _ at v3
    have f3 := fm_La_valueOf p3
    have F3 : Fr [8, 9, 34, 35, 36, 37] [] σ (sI s3 35 i r3) := (F2.c f3 (by decide) (by simp)).aI rfl (by decide)
    have t3 : TF (sI s3 35 i r3) _ := (t2'.k (f3.rowI 8 (by decide) (by simp))).k rfl
    obtain ⟨⟨r4, s4⟩, p4, v4⟩ := la_value hN ok (hc.k (F3.keeps (by decide))) (Fr.rf _ _ (sI s3 35 i r3)) t3 (l := 110) (lo := -9) (hi := 9) (by decide) (by decide)
    change r4 = _ at v4
    have f4 := fm_La_valueOf p4
    have F4 : Fr [8, 9, 34, 35, 36, 37] [] σ (sI s4 36 i r4) := (F3.c f4 (by decide) (by simp)).aI rfl (by decide)
    have t4 : TF (sI s4 36 i r4) _ := (t3.k (f4.rowI 8 (by decide) (by simp))).k rfl
    obtain ⟨⟨r5, s5⟩, p5, v5⟩ := la_value hN ok (hc.k (F4.keeps (by decide))) (Fr.rf _ _ (sI s4 36 i r4)) t4 (l := 99) (lo := 0) (hi := 10) (by decide) (by decide)
    change r5 = _ at v5
    have f5 := fm_La_valueOf p5
    have F5 : Fr [8, 9, 34, 35, 36, 37] [] σ (sI s5 37 i r5) := (F4.c f5 (by decide) (by simp)).aI rfl (by decide)
    have b2 : r2 &&& 1 = r2 := bit1 (by rw [v2]; exact sup01 _ _ _ _)
    refine Or.inr ⟨(nI (i + 1), sI s5 37 i r5), ?_, rfl, F5, fun h hh => ?_⟩
    · show B_Da_knowSky_l2 N (L_Da_knowSky_l2 N k) (nI i) s = _
      unfold B_Da_knowSky_l2
      have g : inb (nI i) 24 = true := inb_j hi (by decide)
      rw [if_neg (show ¬ ((24 : Int32) ≤ nI i) from nI_ge (b := 24) hi (by decide)), es, p1]
      simp only [bnd1_s]
      rw [p2]
      simp only [bnd2_s, letv, grd_t g, nI_clamp (show i < 2 ^ 31 by omega), b2]
      rw [p3]
      simp only [bnd2_s, letv, grd_t g]
      rw [p4]
      simp only [bnd2_s, letv, grd_t g]
      rw [p5]
      simp only [bnd2_s, letv, grd_t g]
      rw [nI_1]
    · show mI (sI s5 37 i r5) 34 h = _ ∧ mI (sI s5 37 i r5) 35 h = _ ∧ mI (sI s5 37 i r5) 36 h = _ ∧ mI (sI s5 37 i r5) 37 h = _
      have a34 : mI s5 34 = mI (sI s2 34 i r2) 34 := (f5.rowI 34 (by decide) (by simp)).trans ((f4.rowI 34 (by decide) (by simp)).trans (f3.rowI 34 (by decide) (by simp)))
      have a35 : mI s5 35 = mI (sI s3 35 i r3) 35 := (f5.rowI 35 (by decide) (by simp)).trans (f4.rowI 35 (by decide) (by simp))
      have a36 : mI s5 36 = mI (sI s4 36 i r4) 36 := f5.rowI 36 (by decide) (by simp)
      have b34 : mI s2 34 = mI s 34 := (f2.rowI 34 (by decide) (by simp)).trans (f1.rowI 34 (by decide) (by simp))
      have b35 : mI s3 35 = mI s 35 := (f3.rowI 35 (by decide) (by simp)).trans ((f2.rowI 35 (by decide) (by simp)).trans (f1.rowI 35 (by decide) (by simp)))
      have b36 : mI s4 36 = mI s 36 := (f4.rowI 36 (by decide) (by simp)).trans ((f3.rowI 36 (by decide) (by simp)).trans ((f2.rowI 36 (by decide) (by simp)).trans (f1.rowI 36 (by decide) (by simp))))
      have b37 : mI s5 37 = mI s 37 := (f5.rowI 37 (by decide) (by simp)).trans ((f4.rowI 37 (by decide) (by simp)).trans ((f3.rowI 37 (by decide) (by simp)).trans ((f2.rowI 37 (by decide) (by simp)).trans (f1.rowI 37 (by decide) (by simp)))))
      rw [rdI, rdI, rdI, rdI, if_neg (by omega), if_neg (by omega), if_neg (by omega), a34, a35, a36, rdI, rdI, rdI, b34, b35, b36, b37]
      by_cases e : h = i
      · subst e
        rw [if_pos ⟨rfl, rfl⟩, if_pos ⟨rfl, rfl⟩, if_pos ⟨rfl, rfl⟩, if_pos ⟨rfl, rfl⟩]
        exact ⟨v2, v3, v4, v5⟩
      · rw [if_neg (fun z => e z.2), if_neg (fun z => e z.2), if_neg (fun z => e z.2), if_neg (fun z => e z.2)]
        exact h3 h (by omega)
  · rintro k ⟨x, s⟩ ⟨h1, h2, h3⟩
    have hx : x = nI 24 := h1
    subst hx
    refine ⟨sI s 33 6 1, ?_, fun h hh => ?_, sI_s _ _ _ _⟩
    · show B_Da_knowSky_l2 N (L_Da_knowSky_l2 N k) (nI 24) s = _
      unfold B_Da_knowSky_l2
      rw [if_pos (by decide)]
      rfl
    · have es : mI (sI s 33 6 1) 19 8 = mI σ 19 8 := (sI_n _ _ (by decide)).trans (h2.I 19 8 (by decide) (by simp))
      rw [es]
      exact h3 h hh
section SkyM
variable {N : Nat} {σ : Mem} {n : Nat} {lt : Nat → Int32} {Hs Vs : Nat → FA → Int32}
theorem mo_isUp (hN : 100 < N) (ok : LawOk n Hs) (hm : LawM N σ n lt Hs Vs) (h : Int32) : ∃ r, f_Mo_isUp N σ h = some r ∧ r.1 = sup n lt Hs (fHour h (mI σ 65 2)) := by
  obtain ⟨s, p, t⟩ := mo_feels hN σ h
  have F := fm_Mo_feels p
  obtain ⟨r, r1, r2⟩ := mo_up hN ok hm (F.mono (by decide) (by simp)) t
  refine ⟨r, ?_, r2⟩
  unfold f_Mo_isUp
  rw [p]
  exact r1
theorem mo_eastOf (hN : 100 < N) (ok : LawOk n Hs) (hm : LawM N σ n lt Hs Vs) (h : Int32) : ∃ r, f_Mo_eastOf N σ h = some r ∧ r.1 = sval n lt Hs Vs 101 (-9) 9 (fHour h (mI σ 65 2)) := by
  obtain ⟨s, p, t⟩ := mo_feels hN σ h
  have F := fm_Mo_feels p
  obtain ⟨r, r1, r2⟩ := mo_byLaw hN ok hm (F.mono (by decide) (by simp)) t (l := 101) (lo := -9) (hi := 9) (by decide)
  refine ⟨r, ?_, r2⟩
  unfold f_Mo_eastOf
  rw [p]
  simp only [bnd1_s]
  rw [r1]
  rfl
theorem mo_northOf (hN : 100 < N) (ok : LawOk n Hs) (hm : LawM N σ n lt Hs Vs) (h : Int32) : ∃ r, f_Mo_northOf N σ h = some r ∧ r.1 = sval n lt Hs Vs 110 (-9) 9 (fHour h (mI σ 65 2)) := by
  obtain ⟨s, p, t⟩ := mo_feels hN σ h
  have F := fm_Mo_feels p
  obtain ⟨r, r1, r2⟩ := mo_byLaw hN ok hm (F.mono (by decide) (by simp)) t (l := 110) (lo := -9) (hi := 9) (by decide)
  refine ⟨r, ?_, r2⟩
  unfold f_Mo_northOf
  rw [p]
  simp only [bnd1_s]
  rw [r1]
  rfl
theorem mo_cloudsIn (hN : 100 < N) (ok : LawOk n Hs) (hm : LawM N σ n lt Hs Vs) (h : Int32) : ∃ r, f_Mo_cloudsIn N σ h = some r ∧ r.1 = sval n lt Hs Vs 99 0 10 (fHour h (mI σ 65 2)) := by
  obtain ⟨s, p, t⟩ := mo_feels hN σ h
  have F := fm_Mo_feels p
  obtain ⟨r, r1, r2⟩ := mo_byLaw hN ok hm (F.mono (by decide) (by simp)) t (l := 99) (lo := 0) (hi := 10) (by decide)
  refine ⟨r, ?_, r2⟩
  unfold f_Mo_cloudsIn
  rw [p]
  simp only [bnd1_s]
  rw [r1]
  rfl
end SkyM
-- ===== marks =====
def mk1 (g base : Nat) (bit : Int32) (σ : Mem) (q : Int32 × Int32) : Mem := if inT q.1 q.2 = true then sI σ g (base + (12 * q.2 + q.1).toNatClampNeg) (mI σ g (base + (12 * q.2 + q.1).toNatClampNeg) ||| bit) else σ
def mkL (g base : Nat) (bit : Int32) (σ : Mem) (l : List (Int32 × Int32)) : Mem := l.foldl (mk1 g base bit) σ
theorem mkL_snoc (g base : Nat) (bit : Int32) (σ : Mem) (l : List (Int32 × Int32)) (q : Int32 × Int32) : mkL g base bit σ (l ++ [q]) = mk1 g base bit (mkL g base bit σ l) q := by
  unfold mkL
  rw [List.foldl_append]
  rfl
theorem mk1_fr (g base : Nat) (bit : Int32) (σ : Mem) (q : Int32 × Int32) : Fr [g] [] σ (mk1 g base bit σ q) := by
  unfold mk1
  by_cases h : inT q.1 q.2 = true
  · rw [if_pos h]; exact frA _ _ _ _
  · rw [if_neg h]; exact Fr.rf _ _ _
theorem mkL_fr (g base : Nat) (bit : Int32) : ∀ (l : List (Int32 × Int32)) (σ : Mem), Fr [g] [] σ (mkL g base bit σ l) := by
  intro l
  induction l with
  | nil => intro σ; exact Fr.rf _ _ _
  | cons q l ih => intro σ; exact (mk1_fr g base bit σ q).t (ih _)
theorem or_or (a b : Int32) : a ||| b ||| b = a ||| b := by
  apply Int32.toBitVec_inj.1
  simp [BitVec.or_assoc]
theorem hit_cons (q : Int32 × Int32) (l : List (Int32 × Int32)) (sq : Nat) : hit (q :: l) sq = ((inT q.1 q.2 && decide (12 * q.2 + q.1 = nI sq)) || hit l sq) := rfl
theorem mk1_at (g base : Nat) (bit : Int32) (σ : Mem) (q : Int32 × Int32) (j : Nat) : mI (mk1 g base bit σ q) g j = if base ≤ j ∧ j < base + 144 ∧ (inT q.1 q.2 && decide (12 * q.2 + q.1 = nI (j - base))) = true then mI σ g j ||| bit else mI σ g j := by
  unfold mk1
  by_cases h : inT q.1 q.2 = true
  · rw [if_pos h]
    obtain ⟨x, y, hx, hy, ex, ey, es⟩ := inT_sq h
    rw [es, nI_clamp (by omega), rdI, h]
    by_cases e : j = base + (12 * y + x)
    · subst e
      rw [if_pos ⟨rfl, rfl⟩, if_pos ⟨by omega, by omega, by
        have : base + (12 * y + x) - base = 12 * y + x := by omega
        rw [this]
        simp⟩]
    · rw [if_neg (fun z => e z.2), if_neg]
      rintro ⟨a1, a2, a3⟩
      simp only [Bool.true_and, decide_eq_true_eq] at a3
      have := (nI_eq (by omega) (by omega)).mp a3
      omega
  · rw [if_neg h, if_neg]
    rintro ⟨-, -, a3⟩
    simp only [Bool.and_eq_true] at a3
    exact h a3.1
theorem mkL_at (g base : Nat) (bit : Int32) : ∀ (l : List (Int32 × Int32)) (σ : Mem) (j : Nat), mI (mkL g base bit σ l) g j = if base ≤ j ∧ j < base + 144 ∧ hit l (j - base) = true then mI σ g j ||| bit else mI σ g j := by
  intro l
  induction l with
  | nil => intro σ j; rw [if_neg (by simp [hit])]; rfl
  | cons q l ih =>
    intro σ j
    show mI (mkL g base bit (mk1 g base bit σ q) l) g j = _
    rw [ih, mk1_at, hit_cons]
    by_cases c1 : base ≤ j <;> by_cases c2 : j < base + 144 <;> by_cases c3 : hit l (j - base) = true <;> by_cases c4 : (inT q.1 q.2 && decide (12 * q.2 + q.1 = nI (j - base))) = true <;> simp [c1, c2, c3, c4, or_or]
theorem da_mark {σ : Mem} {g n base : Nat} (hb : base + 144 ≤ n) (hn : n < 2 ^ 31) (x y bit : Int32) : f_Da_mark σ x y g n (nI base) bit = some (mk1 g base bit σ (x, y)) := by
  unfold f_Da_mark mk1
  rw [sh_inTown]
  simp only [bnd1_s]
  by_cases h : inT x y = true
  · obtain ⟨a, b, ha, hb', ex, ey, es⟩ := inT_sq h
    have e : nI base + 12 * y + x = nI (base + (12 * b + a)) := by
      rw [Int32.add_assoc, es, nI_add]
    rw [if_pos h, if_neg ne10, if_pos h]
    simp only [letv]
    rw [e, es, grd_t (inb_j (by omega) hn), grd_t (inb_j (by omega) hn), nI_clamp (by omega), nI_clamp (by omega)]
  · rw [if_neg h, if_pos rfl, if_neg h]
theorem mo_casts {σ : Mem} {h : Nat} (hh : h < 24) (x y c : Int32) : f_Mo_casts σ (nI h) x y c = some (mk1 86 (144 * h) ((1 : Int32) <<< (c &&& 31)) σ (x, y)) := by
  unfold f_Mo_casts mk1
  rw [mo_isIn, sh_inTown]
  simp only [bnd1_s]
  by_cases hT : inT x y = true
  · obtain ⟨a, b, ha, hb', ex, ey, es⟩ := inT_sq hT
    have e : 144 * nI h + 12 * y + x = nI (144 * h + (12 * b + a)) := by
      rw [Int32.add_assoc, es]
      show nI 144 * nI h + _ = _
      rw [pk_mul, nI_add]
    rw [if_pos hT, if_neg ne10, if_pos hT]
    simp only [letv]
    rw [e, es, grd_t (inb_j (by omega) (by decide)), grd_t (inb_j (by omega) (by decide)), nI_clamp (by omega), nI_clamp (by omega)]
  · rw [if_neg hT, if_pos rfl, if_neg hT]
theorem sh_eastOf (d : Int32) : f_Sh_eastOf d = some (eastD d) := by
  unfold f_Sh_eastOf eastD
  by_cases h : d = 1
  · rw [if_pos h, if_pos h]
  · rw [if_neg h, if_neg h]
    by_cases h : d = 3
    · rw [if_pos h, if_pos h]
    · rw [if_neg h, if_neg h]
theorem sh_northOf (d : Int32) : f_Sh_northOf d = some (northD d) := by
  unfold f_Sh_northOf northD
  by_cases h : d = 0
  · rw [if_pos h, if_pos h]
  · rw [if_neg h, if_neg h]
    by_cases h : d = 2
    · rw [if_pos h, if_pos h]
    · rw [if_neg h, if_neg h]
theorem jm_abs (x : Int32) : f_JM_abs_0f7a4 x = some (absI x) := by
  unfold f_JM_abs_0f7a4 absI
  by_cases h : 0 ≤ x
  · rw [if_pos h, if_pos h]
  · rw [if_neg h, if_neg h, Int32.zero_sub]
theorem mo_size (x : Int32) : f_Mo_size x = some (absI x) := jm_abs x
theorem jm_max (x y : Int32) : f_JM_max_7cf53 x y = some (maxI x y) := by
  unfold f_JM_max_7cf53 maxI
  by_cases h : x < y
  · rw [if_pos h, if_pos h]
  · rw [if_neg h, if_neg h]
theorem jm_min (x y : Int32) : f_JM_min_7cf53 x y = some (minI x y) := by
  unfold f_JM_min_7cf53 minI
  by_cases h : y < x
  · rw [if_pos h, if_pos h]
  · rw [if_neg h, if_neg h]
theorem mo_max (x y : Int32) : f_Mo_max x y = some (maxI x y) := by
  unfold f_Mo_max maxI
  by_cases h : x < y
  · rw [if_pos h, if_pos (Int32.le_of_lt h)]
  · rw [if_neg h]
    by_cases h2 : x ≤ y
    · rw [if_pos h2, Int32.le_antisymm h2 (Int32.not_lt.mp h)]
    · rw [if_neg h2]
theorem mo_min (x y : Int32) : f_Mo_min x y = some (minI x y) := by
  unfold f_Mo_min minI
  by_cases h : y < x
  · rw [if_pos h, if_pos (Int32.le_of_lt h)]
  · rw [if_neg h]
    by_cases h2 : y ≤ x
    · rw [if_pos h2, Int32.le_antisymm h2 (Int32.not_lt.mp h)]
    · rw [if_neg h2]
/-- how far a loop goes that counts up to a9 -/
theorem cl_cases (a : Int32) : (a < 0 ∧ a.toNatClampNeg = 0) ∨ ∃ m : Nat, m < 2 ^ 31 ∧ a = nI m ∧ a.toNatClampNeg = m := by
  by_cases h : a < 0
  · refine Or.inl ⟨h, ?_⟩
    rw [Int32.lt_iff_toInt_lt] at h
    have : (0 : Int32).toInt = 0 := by decide
    unfold Int32.toNatClampNeg
    omega
  · refine Or.inr ⟨a.toNatClampNeg, ?_, ?_, rfl⟩
    · have := a.toInt_lt
      unfold Int32.toNatClampNeg
      omega
    · have h2 := a.toInt_lt
      rw [Int32.lt_iff_toInt_lt] at h
      have h0 : (0 : Int32).toInt = 0 := by decide
      apply Int32.toInt_inj.mp
      have e : a.toNatClampNeg = a.toInt.toNat := rfl
      rw [nI_toInt (by omega), e]
      omega
theorem min15 (v : Int32) : (minI 15 v).toNatClampNeg ≤ 15 := by
  rcases cl_cases (minI 15 v) with ⟨-, h⟩ | ⟨m, hm, h1, h2⟩
  · omega
  · rw [h2]
    have : minI 15 v ≤ 15 := by
      unfold minI
      by_cases h : v < 15
      · rw [if_pos h]; exact Int32.le_of_lt h
      · rw [if_neg h]; decide
    rw [h1, Int32.le_iff_toInt_le, nI_toInt hm] at this
    have h0 : (15 : Int32).toInt = 15 := by decide
    omega
