-- ===== today, and the reference's day =====
abbrev rInv : List Nat := rTown ++ rKept ++ [2, 72] ++ [48, 94] ++ [57, 58, 59, 60, 61, 99, 100, 101, 102, 103] ++ rLaw
abbrev pInv : List (Nat × Nat) := pTown ++ pKept ++ [(1, 1), (65, 11)] ++ [(47, 1), (65, 47)] ++ [(56, 0), (65, 55)] ++ [(44, 0), (44, 1)] ++ pLaw
theorem Inv.k {N : Nat} {σ σ' : Mem} (i : Inv N σ) (h : Keeps rInv pInv σ σ') : Inv N σ' := by
  obtain ⟨k0, k1, k2, k3, k4, k5, k6⟩ := i
  exact ⟨k0.k (h.sub (by decide) (by decide)), k1.k (h.sub (by decide) (by decide)), k2.k (h.sub (by decide) (by decide)), k3.k (h.sub (by decide) (by decide)), k4.k (h.sub (by decide) (by decide)), k5.k (h.sub (by decide) (by decide)), k6.k (h.sub (by decide) (by decide))⟩
/-- the day is known -/
def Rdy (σ : Mem) : Prop := mI σ 33 6 = 1 ∧ mI σ 33 9 = 1
theorem Rdy.k {σ σ' : Mem} (h : Rdy σ) (g : Keeps [] [(33, 6), (33, 9)] σ σ') : Rdy σ' := ⟨(g.f 33 6 (by decide)).trans h.1, (g.f 33 9 (by decide)).trans h.2⟩
theorem today_ok {N : Nat} {σ : Mem} (hN : 70000 ≤ N) (hI : Inv N σ) : ∃ σ', f_Sh_today N σ = some σ' ∧ Inv N σ' ∧ Rdy σ' := by
  have hI' := hI
  obtain ⟨k0, k1, k2, k3, k4, k5, n, lt, Hs, Vs, ok, hc, hm, d1, d2⟩ := hI'
  obtain ⟨nt, hT⟩ := k0.ok
  -- the sky
  obtain ⟨s1, p1, o1, F1, b1⟩ : ∃ s, (if mI σ 33 6 = 0 then bnd1 (f_Da_knowSky N σ) fun σ8 => some σ8 else some σ) = some s ∧ SkyOk s n lt Hs Vs ∧ Fr [8, 9, 34, 35, 36, 37] [(33, 6)] σ s ∧ mI s 33 6 = 1 := by
    rcases d1 with d1 | ⟨d1, d3⟩
    · obtain ⟨s, q1, q2, q3⟩ := da_knowSky (by omega) ok hc
      exact ⟨s, by rw [if_pos d1, q1]; rfl, q2, fm_Da_knowSky q1, q3⟩
    · exact ⟨σ, by rw [if_neg (by rw [d1]; decide)], d3, Fr.rf _ _ _, d1⟩
  have hU : ∀ h, h < 24 → mI s1 34 h = 0 ∨ mI s1 34 h = 1 := fun h hh => by
    rw [(o1 h hh).1]
    exact sup01 _ _ _ _
  -- the shade
  obtain ⟨s2, p2, o2, F2, b2⟩ : ∃ s, (if mI s1 33 9 = 0 then bnd1 (f_Da_knowShade N s1) fun σ19 => some σ19 else some s1) = some s ∧ ShadeOk s ∧ Fr [38, 39] [(33, 9)] s1 s ∧ mI s 33 9 = 1 := by
    by_cases c : mI s1 33 9 = 0
    · obtain ⟨s, q1, q2, q3⟩ := da_knowShade (N := N) (σ := s1) (by omega) (hT.k (F1.keeps (by decide))) hU
      exact ⟨s, by rw [if_pos c, q1]; rfl, q2, fm_Da_knowShade q1, q3⟩
    · have e9 : mI s1 33 9 = mI σ 33 9 := F1.I 33 9 (by decide) (by decide)
      rcases d2 with d2 | ⟨d2, d3, d4⟩
      · exact absurd (e9.trans d2) c
      · have : s1 = σ := by
          rw [if_neg (by rw [d3]; decide)] at p1
          exact (Option.some.inj p1).symm
        subst this
        exact ⟨s1, by rw [if_neg c], d4, Fr.rf _ _ _, d2⟩
  have F : Fr [8, 9, 34, 35, 36, 37, 38, 39] [(33, 6), (33, 9)] σ s2 := (F1.mono (by decide) (by decide)).c F2 (by decide) (by decide)
  have b1' : mI s2 33 6 = 1 := (F2.I 33 6 (by decide) (by decide)).trans b1
  refine ⟨s2, ?_, ⟨k0.k (F.keeps (by decide)), k1.k (F.keeps (by decide)), k2.k (F.keeps (by decide)), k3.k (F.keeps (by decide)), k4.k (F.keeps (by decide)), k5.k (F.keeps (by decide)), n, lt, Hs, Vs, ok, hc.k (F.keeps (by decide)), hm.k (F.keeps (by decide)), Or.inr ⟨b1', o1.k (F2.keeps (by decide))⟩, Or.inr ⟨b2, b1', o2⟩⟩, b1', b2⟩
  unfold f_Sh_today f_Da_know
  rw [p1]
  simp only [bnd1_s]
  rw [p2]
  rfl
/-- what a known day says -/
theorem Inv.day {N : Nat} {σ : Mem} (hI : Inv N σ) (hR : Rdy σ) : ∃ n lt Hs Vs, LawOk n Hs ∧ LawC N σ n lt Hs Vs ∧ LawM N σ n lt Hs Vs ∧ SkyOk σ n lt Hs Vs ∧ ShadeOk σ := by
  obtain ⟨-, -, -, -, -, -, n, lt, Hs, Vs, ok, hc, hm, d1, d2⟩ := hI
  refine ⟨n, lt, Hs, Vs, ok, hc, hm, ?_, ?_⟩
  · rcases d1 with d1 | ⟨-, d3⟩
    · exact absurd (hR.1.symm.trans d1) (by decide)
    · exact d3
  · rcases d2 with d2 | ⟨-, -, d4⟩
    · exact absurd (hR.2.symm.trans d2) (by decide)
    · exact d4
/-- who casts on a square, by the class's cells -/
def who (σ : Mem) (h sq : Nat) : Int32 := if mI σ 39 sq = 0 then mI σ 38 (144 * h + sq) else 0
/-- the reference's day is the class's -/
def DayEq (σ : Mem) : Prop := (∀ h, h < 24 → mI σ 87 h = mI σ 34 h) ∧ (∀ sq, sq < 144 → mI σ 88 sq = if mI σ 39 sq = 0 then 1 else 0) ∧ ∀ h, h < 24 → ∀ sq, sq < 144 → mI σ 86 (144 * h + sq) = who σ h sq
theorem blt_isH {s : Int32} {k p : Nat → Int32} {sq : Nat} : ∀ n, blt s k p sq n = true ↔ ∃ c, c < n ∧ isH s k p (nI sq) c := by
  intro n
  induction n with
  | zero => simp [blt]
  | succ n ih =>
    rw [blt_succ, Bool.or_eq_true, ih]
    constructor
    · rintro (⟨c, hc, h⟩ | h)
      · exact ⟨c, by omega, h⟩
      · simp only [Bool.and_eq_true, decide_eq_true_eq] at h
        exact ⟨n, by omega, h.1.1, h.1.2, h.2⟩
    · rintro ⟨c, hc, h⟩
      rcases (show c < n ∨ c = n by omega) with q | rfl
      · exact Or.inl ⟨c, q, h⟩
      · right
        simp only [Bool.and_eq_true, decide_eq_true_eq]
        exact ⟨⟨h.1, h.2.1⟩, h.2.2⟩
/-- the reference's test of a free square, by 'blt' of the class's cells -/
theorem mo_free {N : Nat} {σ : Mem} (hN : 100 < N) (hI : ITown σ) (sq : Nat) : f_Mo_isFree N σ (nI sq) = some (if blt (mI σ 19 7) (mI σ 20) (mI σ 21) sq (mI σ 19 6).toNatClampNeg then 0 else 1) := by
  obtain ⟨r, -, r2, n, hn, e, h⟩ := house_eq hN hI (nI sq)
  unfold f_Mo_isFree
  rw [r2, e, nI_clamp (by omega)]
  simp only [bnd1_s]
  rcases h with ⟨rfl, h⟩ | ⟨c, hc, rfl, h1, -⟩
  · rw [if_pos rfl, if_neg]
    intro hb
    obtain ⟨c, hc, hh⟩ := (blt_isH n).mp hb
    exact h c hc hh
  · rw [if_neg (nIm1 (by omega)), if_pos ((blt_isH n).mpr ⟨c, hc, h1⟩)]
/-- the casters' facts on the reference's side -/
theorem rch_congr {s : Int32} {k p z d k' p' z' d' : Nat → Int32} {e n : Int32} {sq : Nat} : ∀ m, (∀ c, c < m → k c = k' c ∧ p c = p' c ∧ z c = z' c ∧ d c = d' c) → rch s k p z d e n sq m = rch s k' p' z' d' e n sq m := by
  intro m
  induction m with
  | zero => intro _; rfl
  | succ m ih =>
    intro h
    obtain ⟨a1, a2, a3, a4⟩ := h m (by omega)
    unfold rch
    rw [ih (fun c hc => h c (by omega)), a1, a2, a3, a4]
section LayS
variable {N : Nat} {σ : Mem} {n : Nat} {lt : Nat → Int32} {Hs Vs : Nat → FA → Int32}
/-- one hour laid, whatever squares are called free -/
theorem mo_laysHour {nt : Nat} (hN : 70000 ≤ N) (ok : LawOk n Hs) (hm : LawM N σ n lt Hs Vs) (hnt : nt ≤ 16) (e0 : mI σ 65 0 = nI nt) (hz : ∀ c, c < nt → (mI σ 68 c).toNatClampNeg < 100) {h : Nat} (hh : h < 24) : ∃ σ', f_Mo_laysHour N σ (nI h) = some σ' ∧ (mI σ' 87 h = sup n lt Hs (fHour (nI h) (mI σ 65 2)) ∧ (∀ j, j ≠ h → mI σ' 87 j = mI σ 87 j) ∧ (∀ j, (j < 144 * h ∨ 144 * h + 144 ≤ j) → mI σ' 86 j = mI σ 86 j) ∧ ∀ sq, sq < 144 → mI σ' 86 (144 * h + sq) = if mI σ 88 sq = 0 ∨ sup n lt Hs (fHour (nI h) (mI σ 65 2)) = 0 then 0 else rch (mI σ 65 1) (mI σ 66) (mI σ 67) (mI σ 68) (mI σ 69) (sval n lt Hs Vs 101 (-9) 9 (fHour (nI h) (mI σ 65 2))) (sval n lt Hs Vs 110 (-9) 9 (fHour (nI h) (mI σ 65 2))) sq nt) := by
  have ix : ∀ sq, sq < 144 → 144 * nI h + nI sq = nI (144 * h + sq) := fun sq _ => by
    show nI 144 * nI h + nI sq = _
    rw [pk_mul, nI_add]
  -- all squares put out
  obtain ⟨s1, p1, F1, z1, w1⟩ : ∃ s, L_Mo_laysHour_l2 N (nI h) N 0 σ = some s ∧ Fr [86] [] σ s ∧ (∀ sq, sq < 144 → mI s 86 (144 * h + sq) = 0) ∧ ∀ j, (j < 144 * h ∨ 144 * h + 144 ≤ j) → mI s 86 j = mI σ 86 j := by
    refine loopR (L := fun k (a : Int32 × Mem) => L_Mo_laysHour_l2 N (nI h) k a.1 a.2) (P := fun i a => a.1 = nI i ∧ Fr [86] [] σ a.2 ∧ (∀ sq, sq < i → mI a.2 86 (144 * h + sq) = 0) ∧ ∀ j, (j < 144 * h ∨ 144 * h + 144 ≤ j) → mI a.2 86 j = mI σ 86 j) (a := (0, σ)) 144 ?_ ?_ (by omega) ⟨rfl, Fr.rf _ _ _, fun h hh => absurd hh (Nat.not_lt_zero h), fun _ _ => rfl⟩
    · rintro k i ⟨x, s⟩ hi ⟨h1, h2, h3, h4⟩
      have hx : x = nI i := h1
      subst hx
      refine Or.inr ⟨(nI (i + 1), sI s 86 (144 * h + i) 0), ?_, rfl, h2.aI rfl (by decide), fun sq hs => ?_, fun j hj => ?_⟩
      · show B_Mo_laysHour_l2 N (nI h) (L_Mo_laysHour_l2 N (nI h) k) (nI i) s = _
        unfold B_Mo_laysHour_l2
        rw [if_neg (show ¬ ((144 : Int32) ≤ nI i) from nI_ge (b := 144) hi (by decide)), ix i hi, grd_t (inb_j (by omega) (by decide)), nI_clamp (by omega)]
        simp only [letv]
        rw [nI_1]
      · show mI (sI s 86 (144 * h + i) 0) 86 (144 * h + sq) = 0
        rw [rdI]
        by_cases e : sq = i
        · rw [if_pos ⟨rfl, by rw [e]⟩]
        · rw [if_neg (by omega)]
          exact h3 sq (by omega)
      · show mI (sI s 86 (144 * h + i) 0) 86 j = _
        rw [rdI, if_neg (by omega)]
        exact h4 j hj
    · rintro k ⟨x, s⟩ ⟨h1, h2, h3, h4⟩
      have hx : x = nI 144 := h1
      subst hx
      refine ⟨s, ?_, h2, h3, h4⟩
      show B_Mo_laysHour_l2 N (nI h) (L_Mo_laysHour_l2 N (nI h) k) (nI 144) s = _
      unfold B_Mo_laysHour_l2
      rw [if_pos (by decide)]
  have es : mI s1 65 2 = mI σ 65 2 := F1.I 65 2 (by decide) (by simp)
  obtain ⟨⟨r2, s2⟩, p2, v2⟩ := mo_isUp (N := N) (by omega) ok (hm.k (F1.keeps (by decide))) (nI h)
  rw [es] at v2
  change r2 = _ at v2
  have F2 := fm_Mo_isUp p2
  have b2 : r2 &&& 1 = r2 := bit1 (by rw [v2]; exact sup01 _ _ _ _)
  have F3 : Fr [84, 85, 86, 87] [] σ (sI s2 87 h r2) := ((F1.mono (by decide) (by simp)).c F2 (by decide) (by simp)).aI rfl (by decide)
  have r86 : mI (sI s2 87 h r2) 86 = mI s1 86 := F2.rowI 86 (by decide) (by simp)
  have r87 : ∀ j, mI (sI s2 87 h r2) 87 j = if j = h then r2 else mI σ 87 j := fun j => by
    rw [rdI]
    by_cases e : j = h
    · rw [if_pos ⟨rfl, e⟩, if_pos e]
    · rw [if_neg (fun z => e z.2), if_neg e, F2.I 87 j (by decide) (by simp), F1.I 87 j (by decide) (by simp)]
  unfold f_Mo_laysHour
  rw [p1]
  simp only [bnd1_s]
  rw [p2]
  simp only [bnd2_s, letv, grd_t (inb_j hh (show 24 < 2 ^ 31 by decide)), nI_clamp (show h < 2 ^ 31 by omega), b2]
  rw [r87 h, if_pos rfl]
  generalize hs3 : sI s2 87 h r2 = s3 at F3 r86 r87
  by_cases u0 : r2 = 0
  · rw [if_pos u0]
    refine ⟨s3, rfl, by rw [r87, if_pos rfl, v2], fun j hj => by rw [r87, if_neg hj], fun j hj => by rw [r86]; exact w1 j hj, fun sq hs => ?_⟩
    rw [r86, z1 sq hs, if_pos (Or.inr (v2.symm.trans u0))]
  · rw [if_neg u0]
    have es3 : mI s3 65 2 = mI σ 65 2 := F3.I 65 2 (by decide) (by simp)
    obtain ⟨⟨r4, s4⟩, p4, v4⟩ := mo_eastOf (N := N) (σ := s3) (by omega) ok (hm.k (F3.keeps (by decide))) (nI h)
    rw [es3] at v4
    change r4 = _ at v4
    have F4 := fm_Mo_eastOf p4
    have F4' : Fr [84, 85, 86, 87] [] σ s4 := F3.c F4 (by decide) (by simp)
    have es4 : mI s4 65 2 = mI σ 65 2 := F4'.I 65 2 (by decide) (by simp)
    obtain ⟨⟨r5, s5⟩, p5, v5⟩ := mo_northOf (N := N) (σ := s4) (by omega) ok (hm.k (F4'.keeps (by decide))) (nI h)
    rw [es4] at v5
    change r5 = _ at v5
    have F5 := fm_Mo_northOf p5
    have F5' : Fr [84, 85, 86, 87] [] σ s5 := F4'.c F5 (by decide) (by simp)
    rw [p4]
    simp only [bnd2_s]
    rw [p5]
    simp only [bnd2_s]
    have q86 : mI s5 86 = mI s1 86 := (F5.rowI 86 (by decide) (by simp)).trans ((F4.rowI 86 (by decide) (by simp)).trans r86)
    have q87 : mI s5 87 = mI s3 87 := (F5.rowI 87 (by decide) (by simp)).trans (F4.rowI 87 (by decide) (by simp))
    -- all casters
    obtain ⟨s6, p6, F6, z6, w6⟩ : ∃ s, L_Mo_laysHour_l64 N (nI h) r4 r5 N 0 s5 = some s ∧ Fr [86] [] s5 s ∧ (∀ sq, sq < 144 → mI s 86 (144 * h + sq) = rch (mI σ 65 1) (mI σ 66) (mI σ 67) (mI σ 68) (mI σ 69) r4 r5 sq nt) ∧ ∀ j, (j < 144 * h ∨ 144 * h + 144 ≤ j) → mI s 86 j = mI σ 86 j := by
      refine loopR (L := fun k (a : Int32 × Mem) => L_Mo_laysHour_l64 N (nI h) r4 r5 k a.1 a.2) (P := fun i a => a.1 = nI i ∧ Fr [86] [] s5 a.2 ∧ (∀ sq, sq < 144 → mI a.2 86 (144 * h + sq) = rch (mI σ 65 1) (mI σ 66) (mI σ 67) (mI σ 68) (mI σ 69) r4 r5 sq i) ∧ ∀ j, (j < 144 * h ∨ 144 * h + 144 ≤ j) → mI a.2 86 j = mI σ 86 j) (a := (0, s5)) nt ?_ ?_ (by omega) ⟨rfl, Fr.rf _ _ _, fun sq hs => by show mI s5 86 _ = _; rw [q86, z1 sq hs]; rfl, fun j hj => by show mI s5 86 _ = _; rw [q86]; exact w1 j hj⟩
      · rintro k i ⟨x, s⟩ hi ⟨h1, h2, h3, h4⟩
        have hx : x = nI i := h1
        subst hx
        have Fs : Fr [84, 85, 86, 87] [] σ s := F5'.c h2 (by decide) (by simp)
        have hB : B_Mo_laysHour_l64 N (nI h) r4 r5 (L_Mo_laysHour_l64 N (nI h) r4 r5 k) (nI i) s = L_Mo_laysHour_l64 N (nI h) r4 r5 k (nI (i + 1)) (if stands (mI σ 65 1) i = true then mkL 86 (144 * h) ((1 : Int32) <<< (nI i &&& 31)) s (hitL (mI σ 66 i) (mI σ 67 i) (mI σ 68 i) (mI σ 69 i) r4 r5) else s) := by
          unfold B_Mo_laysHour_l64
          rw [Fs.I 65 0 (by decide) (by simp), e0, if_neg (nI_ge hi (by omega)), Fs.I 65 1 (by decide) (by simp), mo_has]
          simp only [bnd1_s, letv]
          by_cases hst : stands (mI σ 65 1) i = true
          · rw [if_pos hst, if_neg ne10, grd_t (inb_j (show i < 17 by omega) (by decide)), nI_clamp (by omega), if_pos hst]
            by_cases k2 : mI s 66 i = 2
            · rw [if_pos k2, mo_near (by omega) (by omega) hh (by rw [Fs.I 68 i (by decide) (by simp)]; exact hz i hi)]
              simp only [bnd1_s]
              rw [nI_1]
              have : mI σ 66 i = 2 := (Fs.I 66 i (by decide) (by simp)).symm.trans k2
              rw [this, hitL_near, Fs.rowI 67 (by decide) (by simp), Fs.rowI 68 (by decide) (by simp), Fs.rowI 69 (by decide) (by simp)]
            · rw [if_neg k2, mo_far (by omega) (by omega) hh _ _ k2]
              simp only [bnd1_s]
              rw [nI_1, Fs.rowI 66 (by decide) (by simp), Fs.rowI 67 (by decide) (by simp), Fs.rowI 68 (by decide) (by simp), Fs.rowI 69 (by decide) (by simp)]
          · rw [if_neg hst, if_pos rfl, if_neg hst]
            simp only [bnd1_s]
            rw [nI_1]
        refine Or.inr ⟨(nI (i + 1), if stands (mI σ 65 1) i = true then mkL 86 (144 * h) ((1 : Int32) <<< (nI i &&& 31)) s (hitL (mI σ 66 i) (mI σ 67 i) (mI σ 68 i) (mI σ 69 i) r4 r5) else s), hB, rfl, ?_, fun sq hs => ?_, fun j hj => ?_⟩
        · show Fr [86] [] s5 (if stands (mI σ 65 1) i = true then _ else s)
          by_cases hst : stands (mI σ 65 1) i = true
          · rw [if_pos hst]; exact h2.t (mkL_fr _ _ _ _ _)
          · rw [if_neg hst]; exact h2
        · show mI (if stands (mI σ 65 1) i = true then _ else s) 86 (144 * h + sq) = _
          have h3' := h3 sq hs
          change mI s 86 (144 * h + sq) = _ at h3'
          by_cases hst : stands (mI σ 65 1) i = true
          · rw [if_pos hst]
            exact mk_rch _ _ _ _ _ _ _ _ _ hst sq hs h3'
          · rw [if_neg hst, h3', rch_skip _ _ _ _ _ _ _ _ _ hst]
        · show mI (if stands (mI σ 65 1) i = true then _ else s) 86 j = _
          have h4' := h4 j hj
          change mI s 86 j = _ at h4'
          by_cases hst : stands (mI σ 65 1) i = true
          · rw [if_pos hst, mkL_at, if_neg (by omega)]; exact h4'
          · rw [if_neg hst]; exact h4'
      · rintro k ⟨x, s⟩ ⟨h1, h2, h3, h4⟩
        have hx : x = nI nt := h1
        subst hx
        refine ⟨s, ?_, h2, h3, h4⟩
        show B_Mo_laysHour_l64 N (nI h) r4 r5 (L_Mo_laysHour_l64 N (nI h) r4 r5 k) (nI nt) s = _
        unfold B_Mo_laysHour_l64
        rw [h2.I 65 0 (by decide) (by simp), F5'.I 65 0 (by decide) (by simp), e0, if_pos (nI_le (Nat.le_refl _) (by omega))]
    rw [p6]
    simp only [bnd1_s]
    -- squares with a house
    have e88 : mI s6 88 = mI σ 88 := (F6.rowI 88 (by decide) (by simp)).trans (F5'.rowI 88 (by decide) (by simp))
    obtain ⟨s7, p7, F7, z7, w7⟩ : ∃ s, L_Mo_laysHour_l127 N (nI h) N 0 s6 = some s ∧ Fr [86] [] s6 s ∧ (∀ sq, sq < 144 → mI s 86 (144 * h + sq) = if sq < 144 ∧ mI σ 88 sq = 0 then 0 else rch (mI σ 65 1) (mI σ 66) (mI σ 67) (mI σ 68) (mI σ 69) r4 r5 sq nt) ∧ ∀ j, (j < 144 * h ∨ 144 * h + 144 ≤ j) → mI s 86 j = mI σ 86 j := by
      refine loopR (L := fun k (a : Int32 × Mem) => L_Mo_laysHour_l127 N (nI h) k a.1 a.2) (P := fun i a => a.1 = nI i ∧ Fr [86] [] s6 a.2 ∧ (∀ sq, sq < 144 → mI a.2 86 (144 * h + sq) = if sq < i ∧ mI σ 88 sq = 0 then 0 else rch (mI σ 65 1) (mI σ 66) (mI σ 67) (mI σ 68) (mI σ 69) r4 r5 sq nt) ∧ ∀ j, (j < 144 * h ∨ 144 * h + 144 ≤ j) → mI a.2 86 j = mI σ 86 j) (a := (0, s6)) 144 ?_ ?_ (by omega) ⟨rfl, Fr.rf _ _ _, fun sq hs => by rw [if_neg (by omega)]; exact z6 sq hs, w6⟩
      · rintro k i ⟨x, s⟩ hi ⟨h1, h2, h3, h4⟩
        have hx : x = nI i := h1
        subst hx
        have e88' : mI s 88 i = mI σ 88 i := (h2.I 88 i (by decide) (by simp)).trans (by rw [e88])
        have hB : B_Mo_laysHour_l127 N (nI h) (L_Mo_laysHour_l127 N (nI h) k) (nI i) s = L_Mo_laysHour_l127 N (nI h) k (nI (i + 1)) (if mI σ 88 i = 0 then sI s 86 (144 * h + i) 0 else s) := by
          unfold B_Mo_laysHour_l127
          rw [if_neg (show ¬ ((144 : Int32) ≤ nI i) from nI_ge (b := 144) hi (by decide)), grd_t (inb_j hi (by decide)), nI_clamp (by omega), e88', ix i hi, grd_t (inb_j (by omega) (by decide)), nI_clamp (by omega)]
          simp only [letv]
          by_cases c : mI σ 88 i = 0
          · rw [if_pos c, if_pos c]
            simp only [bnd1_s]
            rw [nI_1]
          · rw [if_neg c, if_neg c]
            simp only [bnd1_s]
            rw [nI_1]
        refine Or.inr ⟨(nI (i + 1), if mI σ 88 i = 0 then sI s 86 (144 * h + i) 0 else s), hB, rfl, ?_, fun sq hs => ?_, fun j hj => ?_⟩
        · show Fr [86] [] s6 (if mI σ 88 i = 0 then _ else s)
          by_cases c : mI σ 88 i = 0
          · rw [if_pos c]; exact h2.aI rfl (by decide)
          · rw [if_neg c]; exact h2
        · show mI (if mI σ 88 i = 0 then _ else s) 86 (144 * h + sq) = _
          have h3' := h3 sq hs
          change mI s 86 (144 * h + sq) = _ at h3'
          by_cases c : mI σ 88 i = 0
          · rw [if_pos c, rdI]
            by_cases e : sq = i
            · subst e
              rw [if_pos ⟨rfl, rfl⟩, if_pos ⟨by omega, c⟩]
            · rw [if_neg (by omega), h3']
              by_cases q : sq < i
              · by_cases q' : mI σ 88 sq = 0
                · rw [if_pos ⟨q, q'⟩, if_pos ⟨by omega, q'⟩]
                · rw [if_neg (fun z => q' z.2), if_neg (fun z => q' z.2)]
              · rw [if_neg (fun z => q z.1), if_neg (fun z => by omega)]
          · rw [if_neg c, h3']
            by_cases e : sq = i
            · subst e
              rw [if_neg (fun z => c z.2), if_neg (fun z => c z.2)]
            · by_cases q : sq < i
              · by_cases q' : mI σ 88 sq = 0
                · rw [if_pos ⟨q, q'⟩, if_pos ⟨by omega, q'⟩]
                · rw [if_neg (fun z => q' z.2), if_neg (fun z => q' z.2)]
              · rw [if_neg (fun z => q z.1), if_neg (fun z => by omega)]
        · show mI (if mI σ 88 i = 0 then _ else s) 86 j = _
          have h4' := h4 j hj
          change mI s 86 j = _ at h4'
          by_cases c : mI σ 88 i = 0
          · rw [if_pos c, rdI, if_neg (by omega)]; exact h4'
          · rw [if_neg c]; exact h4'
      · rintro k ⟨x, s⟩ ⟨h1, h2, h3, h4⟩
        have hx : x = nI 144 := h1
        subst hx
        refine ⟨s, ?_, h2, h3, h4⟩
        show B_Mo_laysHour_l127 N (nI h) (L_Mo_laysHour_l127 N (nI h) k) (nI 144) s = _
        unfold B_Mo_laysHour_l127
        rw [if_pos (by decide)]
    have t87 : mI s7 87 = mI s3 87 := (F7.rowI 87 (by decide) (by simp)).trans ((F6.rowI 87 (by decide) (by simp)).trans q87)
    refine ⟨s7, p7, by rw [t87, r87, if_pos rfl, v2], fun j hj => by rw [t87, r87, if_neg hj], w7, fun sq hs => ?_⟩
    rw [z7 sq hs, ← v2, v4, v5]
    by_cases c : mI σ 88 sq = 0
    · rw [if_pos ⟨hs, c⟩, if_pos (Or.inl c)]
    · rw [if_neg (fun z => c z.2), if_neg (fun z => by rcases z with z | z; exact c z; exact u0 z)]
end LayS
