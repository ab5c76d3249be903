-- ===== counting =====
def cntB (f : Nat → Bool) : Nat → Nat
  | 0 => 0
  | m + 1 => cntB f m + if f m then 1 else 0
theorem cntB_succ (f : Nat → Bool) (m : Nat) : cntB f (m + 1) = cntB f m + if f m then 1 else 0 := rfl
theorem cntB_le (f : Nat → Bool) (m : Nat) : cntB f m ≤ m := by
  induction m with
  | zero => exact Nat.le_refl _
  | succ m ih =>
    unfold cntB
    by_cases h : f m = true
    · rw [if_pos h]; omega
    · rw [if_neg h]; omega
theorem cntB_congr {f g : Nat → Bool} : ∀ m, (∀ i, i < m → f i = g i) → cntB f m = cntB g m := by
  intro m
  induction m with
  | zero => intro _; rfl
  | succ m ih =>
    intro h
    unfold cntB
    rw [ih (fun i hi => h i (by omega)), h m (by omega)]
theorem mo_freeB {N : Nat} {σ : Mem} {nt : Nat} (hN : 100 < N) (hnt : nt ≤ 16) (e0 : mI σ 65 0 = nI nt) (sq : Nat) : f_Mo_isFree N σ (nI sq) = some (if blt (mI σ 65 1) (mI σ 66) (mI σ 67) sq nt then 0 else 1) := by
  obtain ⟨r, r2, h⟩ := mo_houseOn hN hnt e0 (nI sq)
  unfold f_Mo_isFree
  rw [r2]
  simp only [bnd1_s]
  rcases h with ⟨rfl, h⟩ | ⟨c, hc, rfl, h1, -⟩
  · rw [if_pos rfl, if_neg]
    intro hb
    obtain ⟨c, hc, hh⟩ := (blt_isH nt).mp hb
    exact h c hc hh
  · rw [if_neg (nIm1 (by omega)), if_pos ((blt_isH nt).mpr ⟨c, hc, h1⟩)]
section LayD
variable {N : Nat} {σ : Mem} {n : Nat} {lt : Nat → Int32} {Hs Vs : Nat → FA → Int32}
theorem mo_laysFree {nt : Nat} (hN : 70000 ≤ N) (hnt : nt ≤ 16) (e0 : mI σ 65 0 = nI nt) : ∃ σ', f_Mo_laysFree N σ = some σ' ∧ ((∀ sq, sq < 144 → mI σ' 88 sq = if blt (mI σ 65 1) (mI σ 66) (mI σ 67) sq nt then 0 else 1) ∧ mI σ' 65 37 = nI (cntB (fun sq => !blt (mI σ 65 1) (mI σ 66) (mI σ 67) sq nt) 144)) := by
  unfold f_Mo_laysFree
  simp only [letv]
  obtain ⟨s, h1, -, h2, h3⟩ := loopR (L := fun k (a : Int32 × Mem) => L_Mo_laysFree_l7 N k a.1 a.2) (P := fun i a => a.1 = nI i ∧ Fr [88] [(65, 37)] σ a.2 ∧ (∀ sq, sq < i → mI a.2 88 sq = if blt (mI σ 65 1) (mI σ 66) (mI σ 67) sq nt then 0 else 1) ∧ mI a.2 65 37 = nI (cntB (fun sq => !blt (mI σ 65 1) (mI σ 66) (mI σ 67) sq nt) i)) (Q := fun a => Fr [88] [(65, 37)] σ a ∧ (∀ sq, sq < 144 → mI a 88 sq = if blt (mI σ 65 1) (mI σ 66) (mI σ 67) sq nt then 0 else 1) ∧ mI a 65 37 = nI (cntB (fun sq => !blt (mI σ 65 1) (mI σ 66) (mI σ 67) sq nt) 144)) (K := N) (a := (0, sI σ 65 37 0)) 144 (by
    rintro k i ⟨x, s⟩ hi ⟨h1, h2, h3, h4⟩
    have hx : x = nI i := h1
    subst hx
    have e0' : mI s 65 0 = nI nt := (h2.I 65 0 (by decide) (by decide)).trans e0
    have hf := mo_freeB (N := N) (by omega) hnt e0' i
    rw [h2.I 65 1 (by decide) (by decide), h2.rowI 66 (by decide) (by decide), h2.rowI 67 (by decide) (by decide)] at hf
    change mI s 65 37 = _ at h4
    generalize hb : blt (mI σ 65 1) (mI σ 66) (mI σ 67) i nt = b at hf
    refine Or.inr ⟨(nI (i + 1), sI (sI s 88 i (if b then 0 else 1)) 65 37 (nI (cntB (fun sq => !blt (mI σ 65 1) (mI σ 66) (mI σ 67) sq nt) (i + 1)))), ?_, rfl, ?_, fun sq hs => ?_, sI_s _ _ _ _⟩
    · show B_Mo_laysFree_l7 N (L_Mo_laysFree_l7 N k) (nI i) s = _
      unfold B_Mo_laysFree_l7
      rw [if_neg (show ¬ ((144 : Int32) ≤ nI i) from nI_ge (b := 144) hi (by decide)), hf]
      simp only [bnd1_s, letv, grd_t (inb_j hi (show 144 < 2 ^ 31 by decide)), nI_clamp (show i < 2 ^ 31 by omega)]
      have e1 : ∀ b : Bool, (if b then (0 : Int32) else 1) &&& 1 = if b then 0 else 1 := by decide
      rw [e1, sI_s, sI_n _ _ (by omega), h4]
      cases b with
      | true =>
        simp only [if_true, bnd1_s]
        rw [nI_1, cntB_succ, hb]
        simp
      | false =>
        simp only [if_neg f10, if_neg ne10, bnd1_s]
        rw [nI_1, nI_1, cntB_succ, hb]
        simp
    · exact (h2.aI rfl (by decide)).fI rfl (by decide)
    · show mI (sI (sI s 88 i _) 65 37 _) 88 sq = _
      rw [sI_n _ _ (by omega), rdI]
      by_cases e : sq = i
      · subst e
        rw [if_pos ⟨rfl, rfl⟩, hb]
      · rw [if_neg (fun z => e z.2)]
        exact h3 sq (by omega)) (by
    rintro k ⟨x, s⟩ ⟨h1, h2, h3, h4⟩
    have hx : x = nI 144 := h1
    subst hx
    refine ⟨s, ?_, h2, h3, h4⟩
    show B_Mo_laysFree_l7 N (L_Mo_laysFree_l7 N k) (nI 144) s = _
    unfold B_Mo_laysFree_l7
    rw [if_pos (by decide)]) (by omega) ⟨rfl, (Fr.rf _ _ σ).fI rfl (by decide), fun h hh => absurd hh (Nat.not_lt_zero h), sI_s _ _ _ _⟩
  exact ⟨s, h1, h2, h3⟩
/-- the reference's day, by its own cells -/
theorem mo_laysDayG {nt : Nat} (hN : 70000 ≤ N) (ok : LawOk n Hs) (hm : LawM N σ n lt Hs Vs) (hnt : nt ≤ 16) (e0 : mI σ 65 0 = nI nt) (hz : ∀ c, c < nt → (mI σ 68 c).toNatClampNeg < 100) : ∃ σ', f_Mo_laysDay N σ = some σ' ∧ ((∀ h, h < 24 → mI σ' 87 h = sup n lt Hs (fHour (nI h) (mI σ 65 2))) ∧ (∀ sq, sq < 144 → mI σ' 88 sq = if blt (mI σ 65 1) (mI σ 66) (mI σ 67) sq nt then 0 else 1) ∧ ∀ h, h < 24 → ∀ sq, sq < 144 → mI σ' 86 (144 * h + sq) = if blt (mI σ 65 1) (mI σ 66) (mI σ 67) sq nt = true ∨ sup n lt Hs (fHour (nI h) (mI σ 65 2)) = 0 then 0 else rch (mI σ 65 1) (mI σ 66) (mI σ 67) (mI σ 68) (mI σ 69) (sval n lt Hs Vs 101 (-9) 9 (fHour (nI h) (mI σ 65 2))) (sval n lt Hs Vs 110 (-9) 9 (fHour (nI h) (mI σ 65 2))) sq nt) := by
  obtain ⟨s1, p1, b1, -⟩ := mo_laysFree (N := N) hN hnt e0
  have F1 := fm_Mo_laysFree p1
  unfold f_Mo_laysDay
  rw [p1]
  simp only [bnd1_s]
  obtain ⟨s, h1, -, h2, h3, h4⟩ := loopR (L := fun k (a : Int32 × Mem) => L_Mo_laysDay_l6 N k a.1 a.2) (P := fun i a => a.1 = nI i ∧ Fr [84, 85, 86, 87] [] s1 a.2 ∧ (∀ h, h < i → mI a.2 87 h = sup n lt Hs (fHour (nI h) (mI σ 65 2))) ∧ (∀ sq, sq < 144 → mI a.2 88 sq = if blt (mI σ 65 1) (mI σ 66) (mI σ 67) sq nt then 0 else 1) ∧ ∀ h, h < i → ∀ sq, sq < 144 → mI a.2 86 (144 * h + sq) = if blt (mI σ 65 1) (mI σ 66) (mI σ 67) sq nt = true ∨ sup n lt Hs (fHour (nI h) (mI σ 65 2)) = 0 then 0 else rch (mI σ 65 1) (mI σ 66) (mI σ 67) (mI σ 68) (mI σ 69) (sval n lt Hs Vs 101 (-9) 9 (fHour (nI h) (mI σ 65 2))) (sval n lt Hs Vs 110 (-9) 9 (fHour (nI h) (mI σ 65 2))) sq nt) (Q := fun a => Fr [84, 85, 86, 87] [] s1 a ∧ (∀ h, h < 24 → mI a 87 h = sup n lt Hs (fHour (nI h) (mI σ 65 2))) ∧ (∀ sq, sq < 144 → mI a 88 sq = if blt (mI σ 65 1) (mI σ 66) (mI σ 67) sq nt then 0 else 1) ∧ ∀ h, h < 24 → ∀ sq, sq < 144 → mI a 86 (144 * h + sq) = if blt (mI σ 65 1) (mI σ 66) (mI σ 67) sq nt = true ∨ sup n lt Hs (fHour (nI h) (mI σ 65 2)) = 0 then 0 else rch (mI σ 65 1) (mI σ 66) (mI σ 67) (mI σ 68) (mI σ 69) (sval n lt Hs Vs 101 (-9) 9 (fHour (nI h) (mI σ 65 2))) (sval n lt Hs Vs 110 (-9) 9 (fHour (nI h) (mI σ 65 2))) sq nt) (K := N) (a := (0, s1)) 24 (by
    rintro k i ⟨x, s⟩ hi ⟨h1, h2, h3, h4, h5⟩
    have hx : x = nI i := h1
    subst hx
    have Fs : Fr [84, 85, 86, 87, 88] [(65, 37)] σ s := (F1.mono (by decide) (by decide)).c h2 (by decide) (by simp)
    obtain ⟨s', p, v1, v2, v3, v4⟩ := mo_laysHour (N := N) (σ := s) hN ok (hm.k (Fs.keeps (by decide))) hnt ((Fs.I 65 0 (by decide) (by decide)).trans e0) (fun c hc => by rw [Fs.I 68 c (by decide) (by simp)]; exact hz c hc) hi
    have F' := fm_Mo_laysHour p
    rw [Fs.I 65 2 (by decide) (by decide)] at v1 v4
    rw [Fs.I 65 1 (by decide) (by decide), Fs.rowI 66 (by decide) (by decide), Fs.rowI 67 (by decide) (by decide), Fs.rowI 68 (by decide) (by decide), Fs.rowI 69 (by decide) (by decide)] at v4
    refine Or.inr ⟨(nI (i + 1), s'), ?_, rfl, h2.t F', fun h hh => ?_, fun sq hs => ?_, fun h hh sq hs => ?_⟩
    · show B_Mo_laysDay_l6 N (L_Mo_laysDay_l6 N k) (nI i) s = _
      unfold B_Mo_laysDay_l6
      rw [if_neg (show ¬ ((24 : Int32) ≤ nI i) from nI_ge (b := 24) hi (by decide)), p]
      simp only [bnd1_s, letv]
      rw [nI_1]
    · show mI s' 87 h = _
      by_cases e : h = i
      · subst e; exact v1
      · rw [v2 h e]; exact h3 h (by omega)
    · show mI s' 88 sq = _
      rw [F'.I 88 sq (by decide) (by simp)]
      exact h4 sq hs
    · show mI s' 86 (144 * h + sq) = _
      by_cases e : h = i
      · subst e
        rw [v4 sq hs, h4 sq hs]
        cases blt (mI σ 65 1) (mI σ 66) (mI σ 67) sq nt <;> simp
      · rw [v3 _ (by omega)]
        exact h5 h (by omega) sq hs) (by
    rintro k ⟨x, s⟩ ⟨h1, h2, h3, h4, h5⟩
    have hx : x = nI 24 := h1
    subst hx
    refine ⟨s, ?_, h2, h3, h4, h5⟩
    show B_Mo_laysDay_l6 N (L_Mo_laysDay_l6 N k) (nI 24) s = _
    unfold B_Mo_laysDay_l6
    rw [if_pos (by decide)]) (by omega) ⟨rfl, Fr.rf _ _ _, fun h hh => absurd hh (Nat.not_lt_zero h), b1, fun h hh => absurd hh (Nat.not_lt_zero h)⟩
  exact ⟨s, h1, h2, h3, h4⟩
end LayD
/-- the model's town out of the invariant -/
theorem Inv.mtown {N : Nat} {σ : Mem} (hI : Inv N σ) : ∃ nt : Nat, nt ≤ 16 ∧ mI σ 19 6 = nI nt ∧ mI σ 65 0 = nI nt ∧ mI σ 65 1 = mI σ 19 7 ∧ mI σ 65 2 = mI σ 19 8 ∧ mI σ 65 3 = mI σ 19 9 ∧ (∀ c, c < 16 → mI σ 66 c = mI σ 20 c ∧ mI σ 67 c = mI σ 21 c ∧ mI σ 68 c = mI σ 22 c ∧ mI σ 69 c = mI σ 23 c ∧ mI σ 70 c = mI σ 24 c) ∧ (∀ c, c < nt → (mI σ 68 c).toNatClampNeg < 100) ∧ TownOk σ nt := by
  obtain ⟨⟨⟨q1, q2, q3, q4, q5, q6⟩, n, s, r1, r2, r3, r4, r5, r6, r7⟩, -⟩ := hI
  change mI σ 19 6 = mI σ 65 0 at q1
  change mI σ 19 7 = mI σ 65 1 at q2
  change mI σ 19 8 = mI σ 65 2 at q3
  change mI σ 19 9 = mI σ 65 3 at q4
  change mI σ 19 6 = nI n at r3
  have hz : ∀ c, c < n → (mI σ 22 c).toNatClampNeg < 100 := fun c hc => by
    obtain ⟨z, -, hz, ez⟩ := (r7 c hc).2.2.1
    change mI σ 22 c = nI z at ez
    rw [ez, nI_clamp (by omega)]
    exact hz
  refine ⟨n, r1, r3, q1.symm.trans r3, q2.symm, q3.symm, q4.symm, fun c hc => ?_, fun c hc => ?_, r1, r3, fun c hc => ⟨(r7 c hc).2.1, hz c hc⟩⟩
  · obtain ⟨a1, a2, a3, a4, a5⟩ := q5 c hc
    exact ⟨a1.symm, a2.symm, a3.symm, a4.symm, a5.symm⟩
  · have := (q5 c (by omega)).2.2.1
    change mI σ 22 c = mI σ 68 c at this
    rw [← this]
    exact hz c hc
theorem blt_congr {s : Int32} {k p k' p' : Nat → Int32} {sq : Nat} : ∀ m, (∀ c, c < m → k c = k' c ∧ p c = p' c) → blt s k p sq m = blt s k' p' sq m := by
  intro m
  induction m with
  | zero => intro _; rfl
  | succ m ih =>
    intro h
    obtain ⟨a1, a2⟩ := h m (by omega)
    unfold blt
    rw [ih (fun c hc => h c (by omega)), a1, a2]
theorem mo_laysDay {N : Nat} {σ : Mem} (hN : 70000 ≤ N) (hI : Inv N σ) (hR : Rdy σ) : ∃ σ', f_Mo_laysDay N σ = some σ' ∧ DayEq σ' ∧ Inv N σ' ∧ Rdy σ' ∧ Fr [84, 85, 86, 87, 88] [(65, 37)] σ σ' := by
  obtain ⟨nt, hnt, e6, e0, e1, e2, e3, ec, hz, hT⟩ := hI.mtown
  obtain ⟨n, lt, Hs, Vs, ok, hc, hm, hS, hB⟩ := hI.day hR
  obtain ⟨σ', p, v1, v2, v3⟩ := mo_laysDayG (N := N) hN ok hm hnt e0 hz
  have F := fm_Mo_laysDay p
  refine ⟨σ', p, ⟨fun h hh => ?_, fun sq hs => ?_, fun h hh sq hs => ?_⟩, hI.k (F.keeps (by decide)), hR.k (F.keeps (by decide)), F⟩
  · rw [v1 h hh, e2, F.I 34 h (by decide) (by simp), (hS h hh).1]
  · rw [v2 sq hs, F.I 39 sq (by decide) (by simp), hB.1 sq hs, e6, nI_clamp (by omega), e1, blt_congr (k' := mI σ 20) (p' := mI σ 21) nt (fun c hc => ⟨(ec c (by omega)).1, (ec c (by omega)).2.1⟩)]
    cases blt (mI σ 19 7) (mI σ 20) (mI σ 21) sq nt <;> rfl
  · unfold who
    rw [v3 h hh sq hs, F.I 39 sq (by decide) (by simp), F.I 38 _ (by decide) (by simp), hB.1 sq hs, hB.2 h hh sq hs, e6, nI_clamp (by omega), e1, e2, blt_congr (k' := mI σ 20) (p' := mI σ 21) nt (fun c hc => ⟨(ec c (by omega)).1, (ec c (by omega)).2.1⟩), (hS h hh).1, (hS h hh).2.1, (hS h hh).2.2.1, rch_congr (k' := mI σ 20) (p' := mI σ 21) (z' := mI σ 22) (d' := mI σ 23) nt (fun c hc => ⟨(ec c (by omega)).1, (ec c (by omega)).2.1, (ec c (by omega)).2.2.1, (ec c (by omega)).2.2.2.1⟩)]
    cases blt (mI σ 19 7) (mI σ 20) (mI σ 21) sq nt <;> simp
