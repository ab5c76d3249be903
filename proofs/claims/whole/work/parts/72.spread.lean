-- ===== one caster casts =====
theorem mkL_app (g base : Nat) (bit : Int32) (σ : Mem) (l l' : List (Int32 × Int32)) : mkL g base bit σ (l ++ l') = mkL g base bit (mkL g base bit σ l) l' := by
  unfold mkL
  rw [List.foldl_append]
theorem le_cl {a : Int32} {i : Nat} (hi : i < 2 ^ 31) : a ≤ nI i ↔ a.toNatClampNeg ≤ i := by
  rcases cl_cases a with ⟨h1, h2⟩ | ⟨m, hm, h1, h2⟩
  · constructor
    · intro _; omega
    · intro _
      exact Int32.le_of_lt (Int32.lt_of_lt_of_le h1 (nI_pos' hi))
  · rw [h2, h1, Int32.le_iff_toInt_le, nI_toInt hm, nI_toInt hi]
    omega
theorem lt_cl {a : Int32} {i : Nat} (hi : i + 1 < 2 ^ 31) : a < nI (i + 1) ↔ a.toNatClampNeg ≤ i := by
  rcases cl_cases a with ⟨h1, h2⟩ | ⟨m, hm, h1, h2⟩
  · constructor
    · intro _; omega
    · intro _
      exact Int32.lt_of_lt_of_le h1 (nI_pos' hi)
  · rw [h2, h1, Int32.lt_iff_toInt_lt, nI_toInt hm, nI_toInt hi]
    omega
theorem da_near {N : Nat} {σ : Mem} {c g n base : Nat} (hN : 200 < N) (hc : c < 17) (hg : g ≠ 22) (hb : base + 144 ≤ n) (hn : n < 2 ^ 31) (bit x y d : Int32) (hz : (mI σ 22 c).toNatClampNeg < 100) : L_Da_spread_l55 N (nI c) g n (nI base) bit x y d N 0 σ = some (mkL g base bit σ (nearL x y d (mI σ 22 c).toNatClampNeg)) := by
  have h := loopR (L := fun k (a : Int32 × Mem) => L_Da_spread_l55 N (nI c) g n (nI base) bit x y d k a.1 a.2) (P := fun i a => a = (nI i, mkL g base bit σ (nearL x y d i))) (Q := fun r => r = mkL g base bit σ (nearL x y d (mI σ 22 c).toNatClampNeg)) (a := (0, σ)) (K := N) (mI σ 22 c).toNatClampNeg ?_ ?_ (by omega) rfl
  · obtain ⟨r, h1, h2⟩ := h
    exact h1.trans (by rw [h2])
  · rintro k i a hi rfl
    have e22 : mI (mkL g base bit σ (nearL x y d i)) 22 c = mI σ 22 c := (mkL_fr g base bit _ σ).I 22 c (by simpa using Ne.symm hg) (by simp)
    refine Or.inr ⟨(nI (i + 1), mkL g base bit σ (nearL x y d (i + 1))), ?_, rfl⟩
    show B_Da_spread_l55 N (nI c) g n (nI base) bit x y d (L_Da_spread_l55 N (nI c) g n (nI base) bit x y d k) (nI i) (mkL g base bit σ (nearL x y d i)) = _
    unfold B_Da_spread_l55
    rw [grd_t (inb_j hc (by decide)), nI_clamp (by omega), e22, if_neg (fun z => by have := (le_cl (by omega)).mp z; omega), sh_eastOf, sh_northOf]
    simp only [bnd1_s]
    rw [da_mark hb hn]
    simp only [bnd1_s, letv]
    rw [nI_1]
    unfold nearL
    rw [mkL_snoc]
    congr 1
    cases i <;> rfl
  · rintro k a rfl
    have e22 : mI (mkL g base bit σ (nearL x y d (mI σ 22 c).toNatClampNeg)) 22 c = mI σ 22 c := (mkL_fr g base bit _ σ).I 22 c (by simpa using Ne.symm hg) (by simp)
    refine ⟨_, ?_, rfl⟩
    show B_Da_spread_l55 N (nI c) g n (nI base) bit x y d (L_Da_spread_l55 N (nI c) g n (nI base) bit x y d k) (nI _) (mkL g base bit σ _) = _
    unfold B_Da_spread_l55
    rw [grd_t (inb_j hc (by decide)), nI_clamp (by omega), e22, if_pos ((le_cl (by omega)).mpr (Nat.le_refl _))]
theorem da_far {N : Nat} {σ : Mem} {h g n base : Nat} (hN : 200 < N) (hh : h < 24) (hg : g ≠ 35) (hg' : g ≠ 36) (hb : base + 144 ≤ n) (hn : n < 2 ^ 31) (bit x y r a9 : Int32) (hr : r ≠ 0) (h9 : a9.toNatClampNeg ≤ 15) : L_Da_spread_l185 N (nI h) g n (nI base) bit x y r a9 N 1 σ = some (mkL g base bit σ (farL x y (mI σ 35 h) (mI σ 36 h) r a9.toNatClampNeg)) := by
  have hl := loopR (L := fun k (a : Int32 × Mem) => L_Da_spread_l185 N (nI h) g n (nI base) bit x y r a9 k a.1 a.2) (P := fun i a => a = (nI (i + 1), mkL g base bit σ (farL x y (mI σ 35 h) (mI σ 36 h) r i))) (Q := fun w => w = mkL g base bit σ (farL x y (mI σ 35 h) (mI σ 36 h) r a9.toNatClampNeg)) (a := (1, σ)) (K := N) a9.toNatClampNeg ?_ ?_ (by omega) rfl
  · obtain ⟨w, h1, h2⟩ := hl
    exact h1.trans (by rw [h2])
  · rintro k i a hi rfl
    have e35 : mI (mkL g base bit σ (farL x y (mI σ 35 h) (mI σ 36 h) r i)) 35 h = mI σ 35 h := (mkL_fr g base bit _ σ).I 35 h (by simpa using Ne.symm hg) (by simp)
    have e36 : mI (mkL g base bit σ (farL x y (mI σ 35 h) (mI σ 36 h) r i)) 36 h = mI σ 36 h := (mkL_fr g base bit _ σ).I 36 h (by simpa using Ne.symm hg') (by simp)
    refine Or.inr ⟨(nI (i + 1 + 1), mkL g base bit σ (farL x y (mI σ 35 h) (mI σ 36 h) r (i + 1))), ?_, rfl⟩
    show B_Da_spread_l185 N (nI h) g n (nI base) bit x y r a9 (L_Da_spread_l185 N (nI h) g n (nI base) bit x y r a9 k) (nI (i + 1)) (mkL g base bit σ (farL x y (mI σ 35 h) (mI σ 36 h) r i)) = _
    unfold B_Da_spread_l185
    have gr : decide (¬ r = 0) = true := by simpa using hr
    rw [if_neg (fun z => by have := (lt_cl (by omega)).mp z; omega), grd_t (inb_j hh (by decide)), grd_t gr, grd_t (inb_j hh (by decide)), grd_t gr, nI_clamp (by omega), e35, e36, da_mark hb hn]
    simp only [bnd1_s, letv]
    rw [nI_1]
    conv => rhs; unfold farL
    rw [mkL_snoc]
  · rintro k a rfl
    refine ⟨_, ?_, rfl⟩
    show B_Da_spread_l185 N (nI h) g n (nI base) bit x y r a9 (L_Da_spread_l185 N (nI h) g n (nI base) bit x y r a9 k) (nI (_ + 1)) (mkL g base bit σ _) = _
    unfold B_Da_spread_l185
    rw [if_pos ((lt_cl (by omega)).mpr (Nat.le_refl _))]
theorem da_spread {N : Nat} {σ : Mem} {c h g n base : Nat} (hN : 200 < N) (hc : c < 17) (hh : h < 24) (hg : g = 38 ∨ g = 40) (hb : base + 144 ≤ n) (hn : n < 2 ^ 31) (bit : Int32) (hz : (mI σ 22 c).toNatClampNeg < 100) : f_Da_spread N σ (nI c) (nI h) g n (nI base) bit = some (mkL g base bit σ (hitL (mI σ 20 c) (mI σ 21 c) (mI σ 22 c) (mI σ 23 c) (mI σ 35 h) (mI σ 36 h))) := by
  unfold f_Da_spread hitL
  simp only [letv]
  have gc : inb (nI c) 17 = true := inb_j hc (by decide)
  have gh : inb (nI h) 24 = true := inb_j hh (by decide)
  simp only [grd_t gc, grd_t gh, nI_clamp (show c < 2 ^ 31 by omega), nI_clamp (show h < 2 ^ 31 by omega)]
  by_cases k2 : mI σ 20 c = 2
  · rw [if_pos k2, if_pos k2, da_near hN hc (by omega) hb hn bit _ _ _ hz]
  · rw [if_neg k2, if_neg k2]
    have h1 : (if mI σ 20 c = 1 then bnd1 (f_Da_mark σ (mI σ 21 c - mI σ 21 c / 12 * 12) (mI σ 21 c / 12) g n (nI base) bit) fun σ128 => some σ128 else some σ) = some (mkL g base bit σ (if mI σ 20 c = 1 then [(mI σ 21 c - mI σ 21 c / 12 * 12, mI σ 21 c / 12)] else [])) := by
      by_cases k1 : mI σ 20 c = 1
      · rw [if_pos k1, if_pos k1, da_mark hb hn]; rfl
      · rw [if_neg k1, if_neg k1]; rfl
    rw [h1, mkL_app]
    generalize hl1 : (if mI σ 20 c = 1 then [(mI σ 21 c - mI σ 21 c / 12 * 12, mI σ 21 c / 12)] else []) = l1
    have F1 := mkL_fr g base bit l1 σ
    simp only [bnd1_s]
    have e35 : mI (mkL g base bit σ l1) 35 h = mI σ 35 h := F1.I 35 h (by simp; omega) (by simp)
    have e36 : mI (mkL g base bit σ l1) 36 h = mI σ 36 h := F1.I 36 h (by simp; omega) (by simp)
    have e22 : mI (mkL g base bit σ l1) 22 c = mI σ 22 c := F1.I 22 c (by simp; omega) (by simp)
    rw [e35, e36, e22, jm_abs, jm_abs]
    simp only [bnd1_s]
    rw [jm_max]
    simp only [bnd1_s]
    by_cases g0 : maxI (absI (mI σ 35 h)) (absI (mI σ 36 h)) = 0
    · rw [if_pos g0, if_pos g0]; rfl
    · rw [if_neg g0, if_neg g0, jm_min]
      simp only [bnd1_s]
      rw [da_far hN hh (by omega) (by omega) hb hn bit _ _ _ _ g0 (min15 _), e35, e36]
-- the reference
theorem mo_near {N : Nat} {σ : Mem} {c h : Nat} (hN : 200 < N) (hc : c < 17) (hh : h < 24) (hz : (mI σ 68 c).toNatClampNeg < 100) : f_Mo_castsNear N σ (nI h) (nI c) = some (mkL 86 (144 * h) ((1 : Int32) <<< (nI c &&& 31)) σ (nearL (mI σ 67 c - mI σ 67 c / 12 * 12) (mI σ 67 c / 12) (mI σ 69 c) (mI σ 68 c).toNatClampNeg)) := by
  unfold f_Mo_castsNear
  have gc : inb (nI c) 17 = true := inb_j hc (by decide)
  simp only [letv, grd_t gc, nI_clamp (show c < 2 ^ 31 by omega)]
  generalize mI σ 67 c - mI σ 67 c / 12 * 12 = x
  generalize mI σ 67 c / 12 = y
  have hl := loopR (L := fun k (a : Int32 × Mem) => L_Mo_castsNear_l24 N (nI h) (nI c) x y k a.1 a.2) (P := fun i a => a = (nI i, mkL 86 (144 * h) ((1 : Int32) <<< (nI c &&& 31)) σ (nearL x y (mI σ 69 c) i))) (Q := fun r => r = mkL 86 (144 * h) ((1 : Int32) <<< (nI c &&& 31)) σ (nearL x y (mI σ 69 c) (mI σ 68 c).toNatClampNeg)) (a := (0, σ)) (K := N) (mI σ 68 c).toNatClampNeg ?_ ?_ (by omega) rfl
  · obtain ⟨r, h1, h2⟩ := hl
    exact h1.trans (by rw [h2])
  · rintro k i a hi rfl
    have F1 := mkL_fr 86 (144 * h) ((1 : Int32) <<< (nI c &&& 31)) (nearL x y (mI σ 69 c) i) σ
    refine Or.inr ⟨(nI (i + 1), mkL 86 (144 * h) ((1 : Int32) <<< (nI c &&& 31)) σ (nearL x y (mI σ 69 c) (i + 1))), ?_, rfl⟩
    show B_Mo_castsNear_l24 N (nI h) (nI c) x y (L_Mo_castsNear_l24 N (nI h) (nI c) x y k) (nI i) (mkL 86 (144 * h) ((1 : Int32) <<< (nI c &&& 31)) σ (nearL x y (mI σ 69 c) i)) = _
    unfold B_Mo_castsNear_l24
    rw [grd_t gc, nI_clamp (by omega), F1.I 68 c (by decide) (by simp), F1.I 69 c (by decide) (by simp), if_neg (fun z => by have := (le_cl (by omega)).mp z; omega), grd_t gc, show f_Mo_acrossOf (mI σ 69 c) = _ from sh_eastOf _]
    simp only [bnd1_s, grd_t gc]
    rw [show f_Mo_upOf (mI σ 69 c) = _ from sh_northOf _]
    simp only [bnd1_s]
    rw [mo_casts hh]
    simp only [bnd1_s, letv]
    rw [nI_1]
    conv => rhs; unfold nearL
    rw [mkL_snoc]
  · rintro k a rfl
    refine ⟨_, ?_, rfl⟩
    show B_Mo_castsNear_l24 N (nI h) (nI c) x y (L_Mo_castsNear_l24 N (nI h) (nI c) x y k) (nI _) (mkL 86 (144 * h) ((1 : Int32) <<< (nI c &&& 31)) σ _) = _
    unfold B_Mo_castsNear_l24
    rw [grd_t gc, nI_clamp (by omega), (mkL_fr 86 (144 * h) _ _ σ).I 68 c (by decide) (by simp), if_pos ((le_cl (by omega)).mpr (Nat.le_refl _))]
theorem mo_farL {N : Nat} {σ : Mem} {h : Nat} (hN : 200 < N) (hh : h < 24) (c e n x y r a9 : Int32) (hr : r ≠ 0 ∨ a9.toNatClampNeg = 0) (h9 : a9.toNatClampNeg ≤ 15) : L_Mo_castsFar_l78 N (nI h) c e n x y r a9 N 1 σ = some (mkL 86 (144 * h) ((1 : Int32) <<< (c &&& 31)) σ (farL x y e n r a9.toNatClampNeg)) := by
  have hl := loopR (L := fun k (a : Int32 × Mem) => L_Mo_castsFar_l78 N (nI h) c e n x y r a9 k a.1 a.2) (P := fun i a => a = (nI (i + 1), mkL 86 (144 * h) ((1 : Int32) <<< (c &&& 31)) σ (farL x y e n r i))) (Q := fun w => w = mkL 86 (144 * h) ((1 : Int32) <<< (c &&& 31)) σ (farL x y e n r a9.toNatClampNeg)) (a := (1, σ)) (K := N) a9.toNatClampNeg ?_ ?_ (by omega) rfl
  · obtain ⟨w, h1, h2⟩ := hl
    exact h1.trans (by rw [h2])
  · rintro k i a hi rfl
    have hr' : r ≠ 0 := by
      rcases hr with q | q
      · exact q
      · omega
    refine Or.inr ⟨(nI (i + 1 + 1), mkL 86 (144 * h) ((1 : Int32) <<< (c &&& 31)) σ (farL x y e n r (i + 1))), ?_, rfl⟩
    show B_Mo_castsFar_l78 N (nI h) c e n x y r a9 (L_Mo_castsFar_l78 N (nI h) c e n x y r a9 k) (nI (i + 1)) (mkL 86 (144 * h) ((1 : Int32) <<< (c &&& 31)) σ (farL x y e n r i)) = _
    unfold B_Mo_castsFar_l78
    have gr : decide (¬ r = 0) = true := by simpa using hr'
    rw [if_neg (fun z => by have := (lt_cl (by omega)).mp z; omega), grd_t gr, grd_t gr, mo_casts hh]
    simp only [bnd1_s, letv]
    rw [nI_1]
    conv => rhs; unfold farL
    rw [mkL_snoc]
  · rintro k a rfl
    refine ⟨_, ?_, rfl⟩
    show B_Mo_castsFar_l78 N (nI h) c e n x y r a9 (L_Mo_castsFar_l78 N (nI h) c e n x y r a9 k) (nI (_ + 1)) (mkL 86 (144 * h) ((1 : Int32) <<< (c &&& 31)) σ _) = _
    unfold B_Mo_castsFar_l78
    rw [if_pos ((lt_cl (by omega)).mpr (Nat.le_refl _))]
theorem mo_far {N : Nat} {σ : Mem} {c h : Nat} (hN : 200 < N) (hc : c < 17) (hh : h < 24) (e n : Int32) (hk : mI σ 66 c ≠ 2) : f_Mo_castsFar N σ (nI h) (nI c) e n = some (mkL 86 (144 * h) ((1 : Int32) <<< (nI c &&& 31)) σ (hitL (mI σ 66 c) (mI σ 67 c) (mI σ 68 c) (mI σ 69 c) e n)) := by
  unfold f_Mo_castsFar hitL
  have gc : inb (nI c) 17 = true := inb_j hc (by decide)
  simp only [letv, grd_t gc, nI_clamp (show c < 2 ^ 31 by omega)]
  rw [mo_size, mo_size]
  simp only [bnd1_s]
  rw [mo_max]
  simp only [bnd1_s]
  rw [mo_min]
  simp only [bnd1_s]
  have h1 : (if mI σ 66 c = 1 then bnd1 (f_Mo_casts σ (nI h) (mI σ 67 c - mI σ 67 c / 12 * 12) (mI σ 67 c / 12) (nI c)) fun σ72 => some σ72 else some σ) = some (mkL 86 (144 * h) ((1 : Int32) <<< (nI c &&& 31)) σ (if mI σ 66 c = 1 then [(mI σ 67 c - mI σ 67 c / 12 * 12, mI σ 67 c / 12)] else [])) := by
    by_cases k1 : mI σ 66 c = 1
    · rw [if_pos k1, if_pos k1, mo_casts hh]; rfl
    · rw [if_neg k1, if_neg k1]; rfl
  rw [h1, if_neg hk, mkL_app]
  simp only [bnd1_s]
  by_cases g0 : maxI (absI e) (absI n) = 0
  · rw [if_pos g0, g0, show (0 : Int32) * mI σ 68 c / 12 = 0 by rw [Int32.zero_mul]; decide, mo_farL hN hh _ _ _ _ _ _ _ (Or.inr (by decide)) (by decide)]
    rfl
  · rw [if_neg g0, mo_farL hN hh _ _ _ _ _ _ _ (Or.inl g0) (min15 _)]
theorem hitL_near (p z d e n : Int32) : hitL 2 p z d e n = nearL (p - p / 12 * 12) (p / 12) d z.toNatClampNeg := by
  unfold hitL
  rw [if_pos rfl]
