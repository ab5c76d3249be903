-- ===== the day is known =====
/-- what a step of marks does to the row g: 'rch' of one caster more -/
theorem mk_rch {g h : Nat} (s : Int32) (k p z d : Nat → Int32) (e n : Int32) (c : Nat) (σ : Mem) (hst : stands s c = true) (sq : Nat) (hsq : sq < 144) (hr : mI σ g (144 * h + sq) = rch s k p z d e n sq c) : mI (mkL g (144 * h) ((1 : Int32) <<< (nI c &&& 31)) σ (hitL (k c) (p c) (z c) (d c) e n)) g (144 * h + sq) = rch s k p z d e n sq (c + 1) := by
  rw [mkL_at, show 144 * h + sq - 144 * h = sq by omega, hr]
  conv => rhs; unfold rch
  rw [hst]
  by_cases hh : hit (hitL (k c) (p c) (z c) (d c) e n) sq = true
  · rw [if_pos ⟨by omega, by omega, hh⟩, hh]; rfl
  · rw [if_neg (fun w => hh w.2.2)]
    have : hit (hitL (k c) (p c) (z c) (d c) e n) sq = false := by simpa using hh
    rw [this]; rfl
theorem rch_skip (s : Int32) (k p z d : Nat → Int32) (e n : Int32) (c sq : Nat) (hst : ¬ stands s c = true) : rch s k p z d e n sq (c + 1) = rch s k p z d e n sq c := by
  conv => lhs; unfold rch
  have : stands s c = false := by simpa using hst
  rw [this]; rfl
theorem to_isSt {σ : Mem} {n c : Nat} (hn : n ≤ 16) (e1 : mI σ 19 6 = nI n) (hc : c < n) : f_To_isStanding σ (nI c) = some (if stands (mI σ 19 7) c = true then 1 else 0) := by
  unfold f_To_isStanding f_To_isCaster
  rw [e1, if_neg (nI_pos (by omega)), if_neg (nI_ge hc (by omega))]
  simp only [bnd1_s, if_neg ne10]
  by_cases h1 : (mI σ 19 7 >>> (nI c &&& 31)) &&& 1 = 1
  · have h2 : stands (mI σ 19 7) c = true := by simp [stands, h1]
    rw [if_pos h1, if_pos h2]
  · have h2 : ¬ stands (mI σ 19 7) c = true := by simp [stands, h1]
    rw [if_neg h1, if_neg h2]
theorem to_isStOf {σ : Mem} {n c : Nat} (hn : n ≤ 16) (e1 : mI σ 19 6 = nI n) (hc : c < n) (w : Int32) : f_To_isStandingOf σ (nI c) w = some (if stands (mI σ 19 7) c = true ∧ mI σ 20 c = w then 1 else 0) := by
  unfold f_To_isStandingOf
  rw [to_isSt hn e1 hc]
  simp only [bnd1_s]
  by_cases h2 : stands (mI σ 19 7) c = true
  · rw [if_pos h2, if_neg ne10, grd_t (inb_j (show c < 17 by omega) (by decide)), nI_clamp (by omega)]
    by_cases h3 : mI σ 20 c = w
    · rw [if_pos h3, if_pos ⟨h2, h3⟩]
    · rw [if_neg h3, if_neg (fun z => h3 z.2)]
  · rw [if_neg h2, if_pos rfl, if_neg (fun z => h2 z.1)]
theorem divmod24 {c h : Nat} (hc : c < 16) (hh : h < 24) : nI (24 * c + h) - nI (24 * c + h) / 24 * 24 = nI h ∧ nI (24 * c + h) / 24 = nI c := by
  have e : nI (24 * c + h) / 24 = nI c := by
    show nI (24 * c + h) / nI 24 = _
    rw [pk_div (by omega) (by decide) (by decide)]
    congr 1
    omega
  refine ⟨?_, e⟩
  rw [e]
  show _ - nI c * nI 24 = _
  rw [pk_mul, pk_sub (by omega)]
  congr 1
  omega
/-- the town in cells, as far as the shade needs it -/
def TownOk (σ : Mem) (n : Nat) : Prop := n ≤ 16 ∧ mI σ 19 6 = nI n ∧ ∀ c, c < n → (∃ p' : Nat, p' < 144 ∧ mI σ 21 c = nI p') ∧ (mI σ 22 c).toNatClampNeg < 100
theorem ITown.ok {σ : Mem} (h : ITown σ) : ∃ n, TownOk σ n := by
  obtain ⟨-, n, s, q1, -, q3, -, -, -, q7⟩ := h
  refine ⟨n, q1, q3, fun c hc => ⟨(q7 c hc).2.1, ?_⟩⟩
  obtain ⟨z, -, hz, ez⟩ := (q7 c hc).2.2.1
  change mI σ 22 c = nI z at ez
  rw [ez, nI_clamp (by omega)]
  exact hz
theorem TownOk.k {σ σ' : Mem} {n : Nat} (h : TownOk σ n) (F : Keeps [21, 22] [(19, 6)] σ σ') : TownOk σ' n := by
  unfold TownOk at h ⊢
  rw [F.f 19 6 (by decide), F.r 21 (by decide), F.r 22 (by decide)]
  exact h
theorem blt_succ (s : Int32) (k p : Nat → Int32) (sq m : Nat) : blt s k p sq (m + 1) = (blt s k p sq m || (stands s m && decide (k m = 0) && decide (p m = nI sq))) := rfl
theorem da_built {N : Nat} {σ : Mem} {n : Nat} (hN : 200 < N) (hT : TownOk σ n) : ∃ σ', (bnd1 (L_Da_knowShade_l10 N N 0 σ) fun σ10_ => L_Da_knowShade_l32 N N 0 σ10_) = some σ' ∧ (∀ sq, sq < 144 → mI σ' 39 sq = if blt (mI σ 19 7) (mI σ 20) (mI σ 21) sq n then 1 else 0) ∧ Fr [39] [] σ σ' := by
  obtain ⟨hn, e1, hc⟩ := hT
  obtain ⟨s1, p1, z1, F1⟩ : ∃ s, L_Da_knowShade_l10 N N 0 σ = some s ∧ (∀ sq, sq < 144 → mI s 39 sq = 0) ∧ Fr [39] [] σ s := by
    refine loopR (L := fun k (a : Int32 × Mem) => L_Da_knowShade_l10 N k a.1 a.2) (P := fun i a => a.1 = nI i ∧ (∀ sq, sq < i → mI a.2 39 sq = 0) ∧ Fr [39] [] σ a.2) (a := (0, σ)) 144 ?_ ?_ (by omega) ⟨rfl, fun h hh => absurd hh (Nat.not_lt_zero h), Fr.rf _ _ _⟩
    · rintro k i ⟨x, s⟩ hi ⟨h1, h2, h3⟩
      have hx : x = nI i := h1
      subst hx
      refine Or.inr ⟨(nI (i + 1), sI s 39 i 0), ?_, rfl, fun sq hs => ?_, h3.aI rfl (by decide)⟩
      · show B_Da_knowShade_l10 N (L_Da_knowShade_l10 N k) (nI i) s = _
        unfold B_Da_knowShade_l10
        rw [if_neg (show ¬ ((144 : Int32) ≤ nI i) from nI_ge (b := 144) hi (by decide)), grd_t (inb_j hi (by decide)), nI_clamp (by omega)]
        simp only [letv]
        rw [nI_1]
        rfl
      · show mI (sI s 39 i 0) 39 sq = 0
        rw [rdI]
        by_cases e : sq = i
        · rw [if_pos ⟨rfl, e⟩]
        · rw [if_neg (fun z => e z.2)]
          exact h2 sq (by omega)
    · rintro k ⟨x, s⟩ ⟨h1, h2, h3⟩
      have hx : x = nI 144 := h1
      subst hx
      refine ⟨s, ?_, h2, h3⟩
      show B_Da_knowShade_l10 N (L_Da_knowShade_l10 N k) (nI 144) s = _
      unfold B_Da_knowShade_l10
      rw [if_pos (by decide)]
  rw [p1]
  simp only [bnd1_s]
  refine loopR (L := fun k (a : Int32 × Mem) => L_Da_knowShade_l32 N k a.1 a.2) (P := fun i a => a.1 = nI i ∧ (∀ sq, sq < 144 → mI a.2 39 sq = if blt (mI σ 19 7) (mI σ 20) (mI σ 21) sq i then 1 else 0) ∧ Fr [39] [] σ a.2) (a := (0, s1)) n ?_ ?_ (by omega) ⟨rfl, fun sq hs => z1 sq hs, F1⟩
  · rintro k i ⟨x, s⟩ hi ⟨h1, h2, h3⟩
    have hx : x = nI i := h1
    subst hx
    have e6 : mI s 19 6 = nI n := (h3.I 19 6 (by decide) (by simp)).trans e1
    have e7 : mI s 19 7 = mI σ 19 7 := h3.I 19 7 (by decide) (by simp)
    have e20 : mI s 20 = mI σ 20 := h3.rowI 20 (by decide) (by simp)
    have e21 : mI s 21 = mI σ 21 := h3.rowI 21 (by decide) (by simp)
    obtain ⟨⟨p, hp, ep⟩, -⟩ := hc i hi
    have hB : B_Da_knowShade_l32 N (L_Da_knowShade_l32 N k) (nI i) s = L_Da_knowShade_l32 N k (nI (i + 1)) (if stands (mI σ 19 7) i = true ∧ mI σ 20 i = 0 then sI s 39 p 1 else s) := by
      unfold B_Da_knowShade_l32
      rw [e6, if_neg (nI_ge hi (by omega)), to_isStOf hn e6 hi, e7, e20]
      simp only [bnd1_s, letv]
      by_cases hst : stands (mI σ 19 7) i = true ∧ mI σ 20 i = 0
      · rw [if_pos hst, if_neg ne10, grd_t (inb_j (show i < 17 by omega) (by decide)), nI_clamp (by omega), e21, ep, grd_t (inb_j hp (by decide)), nI_clamp (by omega), if_pos hst]
        simp only [bnd1_s]
        rw [nI_1]
        rfl
      · rw [if_neg hst, if_pos rfl, if_neg hst]
        simp only [bnd1_s]
        rw [nI_1]
    refine Or.inr ⟨(nI (i + 1), if stands (mI σ 19 7) i = true ∧ mI σ 20 i = 0 then sI s 39 p 1 else s), hB, rfl, fun sq hs => ?_, ?_⟩
    · show mI (if stands (mI σ 19 7) i = true ∧ mI σ 20 i = 0 then sI s 39 p 1 else s) 39 sq = _
      rw [blt_succ, ep]
      have h2' := h2 sq hs
      change mI s 39 sq = _ at h2'
      by_cases hst : stands (mI σ 19 7) i = true ∧ mI σ 20 i = 0
      · rw [if_pos hst, rdI, h2', hst.1, hst.2]
        by_cases e : sq = p
        · subst e
          simp
        · have : ¬ (nI p = nI sq) := fun z => e ((nI_eq (by omega) (by omega)).mp z).symm
          simp [e, this]
      · rw [if_neg hst, h2']
        by_cases q1 : stands (mI σ 19 7) i = true
        · have q2 : ¬ mI σ 20 i = 0 := fun z => hst ⟨q1, z⟩
          simp [q1, q2]
        · simp [q1]
    · show Fr [39] [] σ (if stands (mI σ 19 7) i = true ∧ mI σ 20 i = 0 then sI s 39 p 1 else s)
      by_cases hst : stands (mI σ 19 7) i = true ∧ mI σ 20 i = 0
      · rw [if_pos hst]; exact h3.aI rfl (by decide)
      · rw [if_neg hst]; exact h3
  · rintro k ⟨x, s⟩ ⟨h1, h2, h3⟩
    have hx : x = nI n := h1
    subst hx
    refine ⟨s, ?_, h2, h3⟩
    show B_Da_knowShade_l32 N (L_Da_knowShade_l32 N k) (nI n) s = _
    unfold B_Da_knowShade_l32
    rw [show mI s 19 6 = nI n from (h3.I 19 6 (by decide) (by simp)).trans e1, if_pos (nI_le (Nat.le_refl _) (by omega))]
theorem da_knowShade {N : Nat} {σ : Mem} {n : Nat} (hN : 5000 < N) (hT : TownOk σ n) (hU : ∀ h, h < 24 → mI σ 34 h = 0 ∨ mI σ 34 h = 1) : ∃ σ', f_Da_knowShade N σ = some σ' ∧ ShadeOk σ' ∧ mI σ' 33 9 = 1 := by
  obtain ⟨hn, e1, hcc⟩ := hT
  obtain ⟨s0, p0, z0⟩ := ja_fill (N := N) (σ := σ) (g := 38) (n := 3456) 0 (by omega) (by decide)
  have F0 := fm_JA_fill_53178 p0
  obtain ⟨s1, p1, z1, F1⟩ := da_built (N := N) (σ := s0) (n := n) (by omega) (TownOk.k ⟨hn, e1, hcc⟩ (F0.keeps (by decide)))
  rw [F0.I 19 7 (by decide) (by simp), F0.rowI 20 (by decide) (by simp), F0.rowI 21 (by decide) (by simp)] at z1
  have F01 : Fr [38, 39] [] σ s1 := (F0.mono (by decide) (by simp)).c F1 (by decide) (by simp)
  have z38 : ∀ j, j < 3456 → mI s1 38 j = 0 := fun j hj => by
    rw [F1.I 38 j (by decide) (by simp), z0 j, if_pos hj]
  obtain ⟨x, p1a, p1b⟩ := bnd1_e p1
  have key : ∃ σ', L_Da_knowShade_l78 N N 0 s1 = some σ' ∧ (Fr [38] [(33, 9)] s1 σ' ∧ mI σ' 33 9 = 1 ∧ ∀ h, h < 24 → ∀ sq, sq < 144 → mI σ' 38 (144 * h + sq) = if mI s1 34 h = 0 then 0 else rch (mI s1 19 7) (mI s1 20) (mI s1 21) (mI s1 22) (mI s1 23) (mI s1 35 h) (mI s1 36 h) sq n) := by
    refine loopR (L := fun k (a : Int32 × Mem) => L_Da_knowShade_l78 N k a.1 a.2) (P := fun i a => a.1 = nI i ∧ Fr [38] [] s1 a.2 ∧ ∀ h, h < 24 → ∀ sq, sq < 144 → mI a.2 38 (144 * h + sq) = if mI s1 34 h = 0 then 0 else rch (mI s1 19 7) (mI s1 20) (mI s1 21) (mI s1 22) (mI s1 23) (mI s1 35 h) (mI s1 36 h) sq (i / 24 + if h < i % 24 then 1 else 0)) (a := (0, s1)) (24 * n) ?_ ?_ (by omega) ⟨rfl, Fr.rf _ _ _, fun h hh sq hs => ?_⟩
    · rintro k i ⟨x, s⟩ hi ⟨h1, h2, h3⟩
      have hx : x = nI i := h1
      subst hx
      have hd := divmod24 (c := i / 24) (h := i % 24) (by omega) (by omega)
      rw [show 24 * (i / 24) + i % 24 = i by omega] at hd
      have e6 : mI s 19 6 = nI n := (h2.I 19 6 (by decide) (by simp)).trans ((F01.I 19 6 (by decide) (by simp)).trans e1)
      have hci : i / 24 < n := by omega
      have hB : B_Da_knowShade_l78 N (L_Da_knowShade_l78 N k) (nI i) s = L_Da_knowShade_l78 N k (nI (i + 1)) (if mI s1 34 (i % 24) = 0 ∨ ¬ stands (mI s1 19 7) (i / 24) = true then s else mkL 38 (144 * (i % 24)) ((1 : Int32) <<< (nI (i / 24) &&& 31)) s (hitL (mI s1 20 (i / 24)) (mI s1 21 (i / 24)) (mI s1 22 (i / 24)) (mI s1 23 (i / 24)) (mI s1 35 (i % 24)) (mI s1 36 (i % 24)))) := by
        unfold B_Da_knowShade_l78
        have e24 : (24 : Int32) * nI n = nI (24 * n) := pk_mul 24 n
        rw [e6, e24, if_neg (nI_ge hi (by omega))]
        simp only [letv]
        rw [hd.1, hd.2, grd_t (inb_j (by omega) (by decide)), nI_clamp (by omega), h2.I 34 _ (by decide) (by simp)]
        by_cases u0 : mI s1 34 (i % 24) = 0
        · rw [if_pos u0, if_pos (Or.inl u0)]
          simp only [bnd1_s]
          rw [nI_1]
        · rw [if_neg u0, to_isSt hn e6 hci, h2.I 19 7 (by decide) (by simp)]
          simp only [bnd1_s]
          by_cases hst : stands (mI s1 19 7) (i / 24) = true
          · have hz : (mI s 22 (i / 24)).toNatClampNeg < 100 := by
              rw [h2.I 22 _ (by decide) (by simp), F01.I 22 _ (by decide) (by simp)]
              exact (hcc _ hci).2
            rw [if_pos hst, if_neg ne10, show nI (i % 24) * 144 = nI (144 * (i % 24)) by rw [Nat.mul_comm]; exact pk_mul _ 144]
            rw [da_spread (by omega) (by omega) (by omega) (Or.inl rfl) (by omega) (by decide) _ hz, if_neg (fun z => by rcases z with z | z; exact u0 z; exact z hst)]
            simp only [bnd1_s]
            rw [nI_1, h2.rowI 20 (by decide) (by simp), h2.rowI 21 (by decide) (by simp), h2.rowI 22 (by decide) (by simp), h2.rowI 23 (by decide) (by simp), h2.rowI 35 (by decide) (by simp), h2.rowI 36 (by decide) (by simp)]
          · rw [if_neg hst, if_pos rfl, if_pos (Or.inr hst)]
            simp only [bnd1_s]
            rw [nI_1]
      refine Or.inr ⟨(nI (i + 1), if mI s1 34 (i % 24) = 0 ∨ ¬ stands (mI s1 19 7) (i / 24) = true then s else mkL 38 (144 * (i % 24)) ((1 : Int32) <<< (nI (i / 24) &&& 31)) s (hitL (mI s1 20 (i / 24)) (mI s1 21 (i / 24)) (mI s1 22 (i / 24)) (mI s1 23 (i / 24)) (mI s1 35 (i % 24)) (mI s1 36 (i % 24)))), hB, rfl, ?_, fun h hh sq hs => ?_⟩
      · show Fr [38] [] s1 (if mI s1 34 (i % 24) = 0 ∨ ¬ stands (mI s1 19 7) (i / 24) = true then s else mkL 38 (144 * (i % 24)) ((1 : Int32) <<< (nI (i / 24) &&& 31)) s (hitL (mI s1 20 (i / 24)) (mI s1 21 (i / 24)) (mI s1 22 (i / 24)) (mI s1 23 (i / 24)) (mI s1 35 (i % 24)) (mI s1 36 (i % 24))))
        by_cases c : mI s1 34 (i % 24) = 0 ∨ ¬ stands (mI s1 19 7) (i / 24) = true
        · rw [if_pos c]; exact h2
        · rw [if_neg c]; exact h2.t (mkL_fr _ _ _ _ _)
      · show mI (if mI s1 34 (i % 24) = 0 ∨ ¬ stands (mI s1 19 7) (i / 24) = true then s else mkL 38 (144 * (i % 24)) ((1 : Int32) <<< (nI (i / 24) &&& 31)) s (hitL (mI s1 20 (i / 24)) (mI s1 21 (i / 24)) (mI s1 22 (i / 24)) (mI s1 23 (i / 24)) (mI s1 35 (i % 24)) (mI s1 36 (i % 24)))) 38 (144 * h + sq) = _
        have h3' := h3 h hh sq hs
        change mI s 38 (144 * h + sq) = _ at h3'
        by_cases eh : h = i % 24
        · have hl : (i + 1) / 24 + (if h < (i + 1) % 24 then 1 else 0) = i / 24 + 1 := by
            by_cases q : h < (i + 1) % 24
            · rw [if_pos q]; omega
            · rw [if_neg q]; omega
          rw [hl]
          have hl' : i / 24 + (if h < i % 24 then 1 else 0) = i / 24 := by rw [if_neg (by omega)]; rfl
          rw [hl'] at h3'
          by_cases u0 : mI s1 34 (i % 24) = 0
          · rw [if_pos (Or.inl u0), h3', eh, if_pos u0, if_pos u0]
          · rw [eh, if_neg u0] at h3' ⊢
            by_cases hst : stands (mI s1 19 7) (i / 24) = true
            · rw [if_neg (fun z => by rcases z with z | z; exact u0 z; exact z hst)]
              exact mk_rch _ _ _ _ _ _ _ _ _ hst sq hs h3'
            · rw [if_pos (Or.inr hst), h3', rch_skip _ _ _ _ _ _ _ _ _ hst]
        · have hl : (i + 1) / 24 + (if h < (i + 1) % 24 then 1 else 0) = i / 24 + (if h < i % 24 then 1 else 0) := by
            by_cases q : i % 24 = 23
            · rw [if_neg (by omega), if_pos (by omega)]; omega
            · by_cases q2 : h < i % 24
              · rw [if_pos (by omega), if_pos q2]; omega
              · rw [if_neg (by omega), if_neg q2]; omega
          rw [hl, ← h3']
          by_cases c : mI s1 34 (i % 24) = 0 ∨ ¬ stands (mI s1 19 7) (i / 24) = true
          · rw [if_pos c]
          · rw [if_neg c, mkL_at, if_neg (by omega)]
    · rintro k ⟨x, s⟩ ⟨h1, h2, h3⟩
      have hx : x = nI (24 * n) := h1
      subst hx
      have e6 : mI s 19 6 = nI n := (h2.I 19 6 (by decide) (by simp)).trans ((F01.I 19 6 (by decide) (by simp)).trans e1)
      refine ⟨sI s 33 9 1, ?_, ?_, sI_s _ _ _ _, fun h hh sq hs => ?_⟩
      · show B_Da_knowShade_l78 N (L_Da_knowShade_l78 N k) (nI (24 * n)) s = _
        unfold B_Da_knowShade_l78
        have e24 : (24 : Int32) * nI n = nI (24 * n) := pk_mul 24 n
        rw [e6, e24, if_pos (nI_le (Nat.le_refl _) (by omega))]
        rfl
      · exact (h2.mono (by decide) (by simp)).fI rfl (by decide)
      · show mI (sI s 33 9 1) 38 (144 * h + sq) = _
        rw [sI_n _ _ (by omega)]
        have h3' := h3 h hh sq hs
        rw [show 24 * n / 24 + (if h < 24 * n % 24 then 1 else 0) = n by rw [if_neg (by omega)]; omega] at h3'
        exact h3'
    · show mI s1 38 (144 * h + sq) = _
      rw [z38 _ (by omega)]
      by_cases u0 : mI s1 34 h = 0
      · rw [if_pos u0]
      · rw [if_neg u0, show 0 / 24 + (if h < 0 % 24 then 1 else 0) = 0 by simp]
        rfl
  obtain ⟨σ', k1, k2, k3, k4⟩ := key
  refine ⟨σ', ?_, ⟨fun sq hs => ?_, fun h hh sq hs => ?_⟩, k3⟩
  · unfold f_Da_knowShade
    rw [p0]
    simp only [bnd1_s]
    rw [p1a]
    simp only [bnd1_s]
    rw [p1b]
    exact k1
  · have F : Fr [38, 39] [(33, 9)] σ σ' := (F01.mono (by decide) (by simp)).c k2 (by decide) (by decide)
    rw [F.I 19 7 (by decide) (by decide), F.I 19 6 (by decide) (by decide), F.rowI 20 (by decide) (by decide), F.rowI 21 (by decide) (by decide), e1, nI_clamp (by omega), k2.I 39 sq (by decide) (by simp)]
    exact z1 sq hs
  · have F : Fr [38] [(33, 9)] s1 σ' := k2
    rw [F.I 19 7 (by decide) (by decide), F.I 19 6 (by decide) (by decide), F.rowI 20 (by decide) (by decide), F.rowI 21 (by decide) (by decide), F.rowI 22 (by decide) (by decide), F.rowI 23 (by decide) (by decide), F.rowI 34 (by decide) (by decide), F.rowI 35 (by decide) (by decide), F.rowI 36 (by decide) (by decide), F01.I 19 6 (by decide) (by simp), e1, nI_clamp (by omega)]
    exact k4 h hh sq hs
