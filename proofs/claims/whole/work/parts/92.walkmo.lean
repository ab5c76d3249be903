-- ===== walks: the reference =====
theorem lA_some (V : Nat → Nat) (sq : Nat) : ∃ n, V n = lA V sq := by
  have h : lA V sq = V sq ∨ lA V sq = V (sq - 1) ∨ lA V sq = V (sq + 1) ∨ lA V sq = V (sq - 12) ∨ lA V sq = V (sq + 12) := by
    unfold lA lA3 lA2 lA1
    by_cases c1 : 0 < sq % 12 <;> by_cases c2 : sq % 12 < 11 <;> by_cases c3 : 12 ≤ sq <;> by_cases c4 : sq < 132 <;> simp only [c1, c2, c3, c4, if_true, if_false] <;> omega
  rcases h with h | h | h | h | h
  · exact ⟨_, h.symm⟩
  · exact ⟨_, h.symm⟩
  · exact ⟨_, h.symm⟩
  · exact ⟨_, h.symm⟩
  · exact ⟨_, h.symm⟩
theorem wV_lt (σ : Mem) (a hr : Nat) : ∀ k sq, wV σ a hr k sq < 1000 → wV σ a hr k sq ≤ k := by
  intro k
  induction k with
  | zero =>
    intro sq h
    change (if sq = a then 0 else 1000) < 1000 at h
    show (if sq = a then 0 else 1000) ≤ 0
    by_cases c : sq = a
    · rw [if_pos c]; omega
    · rw [if_neg c] at h; omega
  | succ k ih =>
    intro sq h
    rw [wV_succ] at h ⊢
    obtain ⟨n, hn⟩ := lA_some (wV σ a hr k) sq
    have h1 := ih n
    rw [hn] at h1
    by_cases c : mI σ 39 sq = 0
    · rw [if_pos c] at h ⊢
      by_cases q : lA (wV σ a hr k) sq < 1000 ∧ mI σ 34 ((hr + k / 6) % 24) ≠ 0 ∧ who σ ((hr + k / 6) % 24) sq = 0
      · rw [if_pos q] at h ⊢
        have := h1 q.1
        omega
      · rw [if_neg q] at h ⊢
        have := h1 h
        omega
    · rw [if_neg c] at h; omega
theorem mo_isDark {σ : Mem} (hD : DayEq σ) {h q : Nat} (hh : h < 24) (hq : q < 144) : f_Mo_isDark σ (nI h) (nI q) = some (if mI σ 34 h ≠ 0 ∧ who σ h q = 0 then 0 else 1) := by
  unfold f_Mo_isDark
  rw [grd_t (inb_j hh (by decide)), nI_clamp (by omega), hD.1 h hh, mo_whoOn hD hh hq]
  simp only [bnd1_s]
  by_cases c1 : mI σ 34 h = 0
  · rw [if_pos c1, if_neg (fun z => z.1 c1)]
  · rw [if_neg c1]
    by_cases c2 : who σ h q = 0
    · rw [if_pos c2, if_pos ⟨c1, c2⟩]
    · rw [if_neg c2, if_neg (fun z => c2 z.2)]
theorem mo_hourOf {hr k : Nat} (h1 : hr < 24) (hk : k < 100) : f_Mo_hourOf (nI hr) (nI k + 1) = some (nI ((hr + k / 6) % 24)) := by
  unfold f_Mo_hourOf
  rw [nI_1, nI_pred, hourE hr k h1 hk]
theorem mo_canCome {N : Nat} {σ : Mem} {V : Nat → Nat} {sq : Nat} (hN : 100 < N) (hs : sq < 144) (hV : ∀ q, q < 144 → mI σ 90 q = if V q = 0 then 1 else 0) : f_Mo_canCome N σ (nI sq) = some (if lA V sq = 0 then 1 else 0) := by
  unfold f_Mo_canCome
  obtain ⟨r, h1, h2⟩ := loopR (L := fun z (x : Int32) => L_Mo_canCome_l2 N (nI sq) σ z x) (P := fun i x => x = nI i ∧ ∀ k n, k < i → bsN sq k = some n → V n ≠ 0) (Q := fun r => r = if lA V sq = 0 then 1 else 0) (a := 0) (K := N) 5 (by
    rintro z i x hi ⟨rfl, h2⟩
    show (∃ r, B_Mo_canCome_l2 N (nI sq) σ (L_Mo_canCome_l2 N (nI sq) σ z) (nI i) = some r ∧ _) ∨ ∃ a' : Int32, B_Mo_canCome_l2 N (nI sq) σ (L_Mo_canCome_l2 N (nI sq) σ z) (nI i) = L_Mo_canCome_l2 N (nI sq) σ z a' ∧ _
    unfold B_Mo_canCome_l2
    rw [if_neg (show ¬ ((5 : Int32) ≤ nI i) from nI_ge (b := 5) hi (by decide)), mo_beside hs hi]
    simp only [bnd1_s]
    cases hb : bsN sq i with
    | none =>
      refine Or.inr ⟨nI (i + 1), ?_, rfl, fun k n hk hkn => ?_⟩
      · show bnd1 (if (-1 : Int32) = -1 then some 1 else _) _ = _
        rw [if_pos rfl]
        simp only [bnd1_s, if_neg (show ¬ (1 = 0) by decide), if_true, letv]
        rw [nI_1]
      · rcases (show k < i ∨ k = i by omega) with q | rfl
        · exact h2 k n q hkn
        · rw [hb] at hkn; cases hkn
    | some n =>
      have hn := bsN_lt hs hb
      show (∃ r, bnd1 (if nI n = -1 then some 1 else grd (inb (nI n) 144) (if mI σ 90 (nI n).toNatClampNeg = 0 then some 1 else some 2)) _ = some r ∧ _) ∨ _
      rw [if_neg (nIm1 (by omega)), grd_t (inb_j hn (by decide)), nI_clamp (by omega), hV n hn]
      by_cases c : V n = 0
      · left
        rw [if_pos c, if_neg ne10]
        refine ⟨1, rfl, ?_⟩
        rw [if_pos ((lA_zero V sq).mpr ⟨i, n, hi, hb, c⟩)]
      · refine Or.inr ⟨nI (i + 1), ?_, rfl, fun k n' hk hkn => ?_⟩
        · show bnd1 (if nI n = -1 then some 1 else grd (inb (nI n) 144) (if mI σ 90 (nI n).toNatClampNeg = 0 then some 1 else some 2)) _ = _
          rw [if_neg (nIm1 (by omega)), grd_t (inb_j hn (by decide)), nI_clamp (by omega), hV n hn, if_neg c, if_pos rfl]
          simp only [bnd1_s, if_neg (show ¬ (1 = 0) by decide), if_true, letv]
          rw [nI_1]
        · rcases (show k < i ∨ k = i by omega) with q | rfl
          · exact h2 k n' q hkn
          · rw [hb] at hkn; cases hkn; exact c) (by
    rintro z x ⟨rfl, h2⟩
    refine ⟨0, ?_, ?_⟩
    · show B_Mo_canCome_l2 N (nI sq) σ _ (nI 5) = _
      unfold B_Mo_canCome_l2
      rw [if_pos (by decide)]
      rfl
    · rw [if_neg]
      intro c
      obtain ⟨k, n, hk, hb, h⟩ := (lA_zero V sq).mp c
      exact h2 k n hk hb h) (by omega) ⟨rfl, fun k n hk => absurd hk (Nat.not_lt_zero k)⟩
  exact h1.trans (by rw [h2])
theorem mo_soonStep {N : Nat} {σ σ0 : Mem} {a hr k : Nat} (hN : 1000 < N) (hD : DayEq σ0) (hh : hr < 24) (hk : k < 100) (F : Fr [90, 91] [] σ0 σ) (hV : ∀ q, q < 144 → mI σ 90 q = if wV σ0 a hr k q = 0 then 1 else 0) (a2 : Int32) : ∃ σ', (bnd1 (L_Mo_soonest_l60 N a2 (nI hr) (nI k) N 0 σ) fun s => L_Mo_soonest_l125 N a2 (nI hr) (nI k) N 0 s) = some σ' ∧ ((∀ q, q < 144 → mI σ' 90 q = if wV σ0 a hr (k + 1) q = 0 then 1 else 0) ∧ Fr [90, 91] [] σ0 σ') := by
  have hm : (hr + k / 6) % 24 < 24 := Nat.mod_lt _ (by decide)
  obtain ⟨s1, p1, v1, F1⟩ : ∃ s, L_Mo_soonest_l60 N a2 (nI hr) (nI k) N 0 σ = some s ∧ ((∀ q, q < 144 → mI s 91 q = if wV σ0 a hr (k + 1) q = 0 then 1 else 0) ∧ Fr [91] [] σ s) := by
    refine loopR (L := fun z (x : Int32 × Mem) => L_Mo_soonest_l60 N a2 (nI hr) (nI k) z x.1 x.2) (P := fun i x => x.1 = nI i ∧ (∀ q, q < i → mI x.2 91 q = if wV σ0 a hr (k + 1) q = 0 then 1 else 0) ∧ Fr [91] [] σ x.2) (a := (0, σ)) 144 ?_ ?_ (by omega) ⟨rfl, fun q hq => absurd hq (Nat.not_lt_zero q), Fr.rf _ _ _⟩
    · rintro z i ⟨x, s⟩ hi ⟨h1, h2, h3⟩
      have hx : x = nI i := h1
      subst hx
      change Fr _ _ σ s at h3
      have Fs : Fr [90, 91] [] σ0 s := F.c h3 (by decide) (by simp)
      have Ds := hD.k (Fs.keeps (by decide))
      refine Or.inr ⟨(nI (i + 1), sI s 91 i (if wV σ0 a hr (k + 1) i = 0 then 1 else 0)), ?_, rfl, fun q hq => ?_, h3.aI rfl (by decide)⟩
      · show B_Mo_soonest_l60 N a2 (nI hr) (nI k) (L_Mo_soonest_l60 N a2 (nI hr) (nI k) z) (nI i) s = _
        unfold B_Mo_soonest_l60
        rw [if_neg (show ¬ ((144 : Int32) ≤ nI i) from nI_ge (b := 144) hi (by decide)), mo_hourOf hh hk]
        simp only [bnd1_s, letv, nI_1, grd_t (inb_j hi (show 144 < 2 ^ 31 by decide)), nI_clamp (show i < 2 ^ 31 by omega)]
        rw [mo_isDark Ds hm hi, mo_canCome (V := wV σ0 a hr k) (by omega) hi (fun q hq => by rw [h3.I 90 q (by decide) (by simp)]; exact hV q hq), Ds.2.1 i hi, Fs.I 39 i (by decide) (by simp), Fs.I 34 _ (by decide) (by simp), who_k (Fs.rowI 38 (by decide) (by simp)) (Fs.rowI 39 (by decide) (by simp)), wV_succ]
        simp only [bnd1_s]
        by_cases c : mI σ0 39 i = 0
        · simp only [if_pos c, if_neg ne10]
          by_cases c1 : mI σ0 34 ((hr + k / 6) % 24) ≠ 0 ∧ who σ0 ((hr + k / 6) % 24) i = 0
          · simp only [if_pos c1, if_true, bnd1_s]
            by_cases c2 : lA (wV σ0 a hr k) i < 1000
            · have hc : lA (wV σ0 a hr k) i < 1000 ∧ mI σ0 34 ((hr + k / 6) % 24) ≠ 0 ∧ who σ0 ((hr + k / 6) % 24) i = 0 := ⟨c2, c1.1, c1.2⟩
              simp only [if_pos hc]
              rw [if_neg (by omega)]
              rfl
            · have hc : ¬ (lA (wV σ0 a hr k) i < 1000 ∧ mI σ0 34 ((hr + k / 6) % 24) ≠ 0 ∧ who σ0 ((hr + k / 6) % 24) i = 0) := fun z => c2 z.1
              simp only [if_neg hc]
              rw [if_neg (by omega)]
              rfl
          · simp only [if_neg c1, if_neg ne10]
            have hc : ¬ (lA (wV σ0 a hr k) i < 1000 ∧ mI σ0 34 ((hr + k / 6) % 24) ≠ 0 ∧ who σ0 ((hr + k / 6) % 24) i = 0) := fun z => c1 z.2
            simp only [if_neg hc]
            by_cases c2 : lA (wV σ0 a hr k) i = 0
            · simp only [if_pos c2, if_neg ne10, bnd1_s]; rfl
            · simp only [if_neg c2, if_true, bnd1_s]; rfl
        · simp only [if_neg c, if_true, bnd1_s]
          rfl
      · show mI (sI s 91 i _) 91 q = _
        rw [rdI]
        by_cases e : q = i
        · subst e; rw [if_pos ⟨rfl, rfl⟩]
        · rw [if_neg (fun z => e z.2)]
          exact h2 q (by omega)
    · rintro z ⟨x, s⟩ ⟨h1, h2, h3⟩
      have hx : x = nI 144 := h1
      subst hx
      refine ⟨s, ?_, h2, h3⟩
      show B_Mo_soonest_l60 N a2 (nI hr) (nI k) _ (nI 144) s = _
      unfold B_Mo_soonest_l60
      rw [if_pos (by decide)]
  rw [p1]
  simp only [bnd1_s]
  obtain ⟨s2, p2, v2, F2⟩ : ∃ s, L_Mo_soonest_l125 N a2 (nI hr) (nI k) N 0 s1 = some s ∧ ((∀ q, q < 144 → mI s 90 q = if wV σ0 a hr (k + 1) q = 0 then 1 else 0) ∧ Fr [90] [] s1 s) := by
    refine loopR (L := fun z (x : Int32 × Mem) => L_Mo_soonest_l125 N a2 (nI hr) (nI k) z x.1 x.2) (P := fun i x => x.1 = nI i ∧ (∀ q, q < i → mI x.2 90 q = if wV σ0 a hr (k + 1) q = 0 then 1 else 0) ∧ Fr [90] [] s1 x.2) (a := (0, s1)) 144 ?_ ?_ (by omega) ⟨rfl, fun q hq => absurd hq (Nat.not_lt_zero q), Fr.rf _ _ _⟩
    · rintro z i ⟨x, s⟩ hi ⟨h1, h2, h3⟩
      have hx : x = nI i := h1
      subst hx
      change Fr _ _ s1 s at h3
      refine Or.inr ⟨(nI (i + 1), sI s 90 i (if wV σ0 a hr (k + 1) i = 0 then 1 else 0)), ?_, rfl, fun q hq => ?_, h3.aI rfl (by decide)⟩
      · show B_Mo_soonest_l125 N a2 (nI hr) (nI k) (L_Mo_soonest_l125 N a2 (nI hr) (nI k) z) (nI i) s = _
        unfold B_Mo_soonest_l125
        rw [if_neg (show ¬ ((144 : Int32) ≤ nI i) from nI_ge (b := 144) hi (by decide))]
        simp only [letv, nI_1, grd_t (inb_j hi (show 144 < 2 ^ 31 by decide)), nI_clamp (show i < 2 ^ 31 by omega)]
        rw [h3.I 91 i (by decide) (by simp), v1 i hi]
        by_cases c : wV σ0 a hr (k + 1) i = 0
        · rw [if_pos c]; rfl
        · rw [if_neg c]; rfl
      · show mI (sI s 90 i _) 90 q = _
        rw [rdI]
        by_cases e : q = i
        · subst e; rw [if_pos ⟨rfl, rfl⟩]
        · rw [if_neg (fun z => e z.2)]
          exact h2 q (by omega)
    · rintro z ⟨x, s⟩ ⟨h1, h2, h3⟩
      have hx : x = nI 144 := h1
      subst hx
      refine ⟨s, ?_, h2, h3⟩
      show B_Mo_soonest_l125 N a2 (nI hr) (nI k) _ (nI 144) s = _
      unfold B_Mo_soonest_l125
      rw [if_pos (by decide)]
  exact ⟨s2, p2, v2, (F.c F1 (by decide) (by simp)).c F2 (by decide) (by simp)⟩
theorem mo_soonest {N : Nat} {σ : Mem} {a b hr : Nat} (hN : 1000 < N) (hD : DayEq σ) (ha : a < 144) (hb : b < 144) (hh : hr < 24) : ∃ σ', f_Mo_soonest N σ (nI a) (nI b) (nI hr) = some (snS (wV σ a hr) b 0 72, σ') := by
  obtain ⟨s0, p0, v0, F0⟩ : ∃ s, L_Mo_soonest_l3 N (nI a) (nI b) (nI hr) N 0 σ = some s ∧ ((∀ q, q < 144 → mI s 90 q = if wV σ a hr 0 q = 0 then 1 else 0) ∧ Fr [90] [] σ s) := by
    refine loopR (L := fun z (x : Int32 × Mem) => L_Mo_soonest_l3 N (nI a) (nI b) (nI hr) z x.1 x.2) (P := fun i x => x.1 = nI i ∧ (∀ q, q < i → mI x.2 90 q = if wV σ a hr 0 q = 0 then 1 else 0) ∧ Fr [90] [] σ x.2) (a := (0, σ)) 144 ?_ ?_ (by omega) ⟨rfl, fun q hq => absurd hq (Nat.not_lt_zero q), Fr.rf _ _ _⟩
    · rintro z i ⟨x, s⟩ hi ⟨h1, h2, h3⟩
      have hx : x = nI i := h1
      subst hx
      refine Or.inr ⟨(nI (i + 1), sI s 90 i (if wV σ a hr 0 i = 0 then 1 else 0)), ?_, rfl, fun q hq => ?_, h3.aI rfl (by decide)⟩
      · show B_Mo_soonest_l3 N (nI a) (nI b) (nI hr) (L_Mo_soonest_l3 N (nI a) (nI b) (nI hr) z) (nI i) s = _
        unfold B_Mo_soonest_l3
        rw [if_neg (show ¬ ((144 : Int32) ≤ nI i) from nI_ge (b := 144) hi (by decide))]
        simp only [letv, nI_1, grd_t (inb_j hi (show 144 < 2 ^ 31 by decide)), nI_clamp (show i < 2 ^ 31 by omega)]
        have e : (nI i = nI a) ↔ i = a := nI_eq (by omega) (by omega)
        have w0 : wV σ a hr 0 i = if i = a then 0 else 1000 := rfl
        rw [w0]
        by_cases c : i = a
        · rw [if_pos (e.mpr c), if_pos c]; rfl
        · rw [if_neg (fun z => c (e.mp z)), if_neg c]; rfl
      · show mI (sI s 90 i _) 90 q = _
        rw [rdI]
        by_cases e : q = i
        · subst e; rw [if_pos ⟨rfl, rfl⟩]
        · rw [if_neg (fun z => e z.2)]
          exact h2 q (by omega)
    · rintro z ⟨x, s⟩ ⟨h1, h2, h3⟩
      have hx : x = nI 144 := h1
      subst hx
      refine ⟨s, ?_, h2, h3⟩
      show B_Mo_soonest_l3 N (nI a) (nI b) (nI hr) _ (nI 144) s = _
      unfold B_Mo_soonest_l3
      rw [if_pos (by decide)]
  have hL : ∀ m K i s, i + m = 72 → m + 1 < K → (∀ q, q < 144 → mI s 90 q = if wV σ a hr i q = 0 then 1 else 0) → Fr [90, 91] [] σ s → ∃ s', L_Mo_soonest_l38 N (nI b) (nI hr) K (nI i) s = some (snS (wV σ a hr) b i m, s') := by
    intro m
    induction m with
    | zero =>
      intro K i s e hK W F
      obtain ⟨z, rfl⟩ : ∃ z, K = z + 1 := ⟨K - 1, by omega⟩
      obtain ⟨z, rfl⟩ : ∃ w, z = w + 1 := ⟨z - 1, by omega⟩
      have : i = 72 := by omega
      subst this
      show ∃ s', B_Mo_soonest_l38 N (nI b) (nI hr) (L_Mo_soonest_l38 N (nI b) (nI hr) (z + 1)) (nI 72) s = _
      unfold B_Mo_soonest_l38 snS
      rw [if_neg (by decide), grd_t (inb_j hb (by decide)), nI_clamp (by omega), W b hb]
      by_cases c : wV σ a hr 72 b = 0
      · rw [if_pos c, if_neg ne10, if_pos c]
        exact ⟨s, rfl⟩
      · rw [if_neg c, if_pos rfl, if_neg c]
        obtain ⟨s1, p1, W1, F1⟩ := mo_soonStep (N := N) (a := a) hN hD hh (k := 72) (by decide) F W (nI b)
        obtain ⟨t, t1, t2⟩ := bnd1_e p1
        rw [t1]
        simp only [bnd1_s]
        rw [t2]
        simp only [bnd1_s, letv, nI_1]
        refine ⟨s1, ?_⟩
        show B_Mo_soonest_l38 N (nI b) (nI hr) _ (nI 73) s1 = _
        unfold B_Mo_soonest_l38
        rw [if_pos (by decide)]
    | succ m ih =>
      intro K i s e hK W F
      obtain ⟨z, rfl⟩ : ∃ z, K = z + 1 := ⟨K - 1, by omega⟩
      have hi : i < 72 := by omega
      show ∃ s', B_Mo_soonest_l38 N (nI b) (nI hr) (L_Mo_soonest_l38 N (nI b) (nI hr) z) (nI i) s = _
      unfold B_Mo_soonest_l38 snS
      rw [if_neg (show ¬ ((72 : Int32) < nI i) from nI_nlt (a := 72) (by omega) (by decide)), grd_t (inb_j hb (by decide)), nI_clamp (by omega), W b hb]
      by_cases c : wV σ a hr i b = 0
      · rw [if_pos c, if_neg ne10, if_pos c]
        exact ⟨s, rfl⟩
      · rw [if_neg c, if_pos rfl, if_neg c]
        obtain ⟨s1, p1, W1, F1⟩ := mo_soonStep (N := N) (a := a) hN hD hh (k := i) (by omega) F W (nI b)
        obtain ⟨t, t1, t2⟩ := bnd1_e p1
        rw [t1]
        simp only [bnd1_s]
        rw [t2]
        simp only [bnd1_s, letv, nI_1]
        exact ih z (i + 1) s1 (by omega) (by omega) W1 F1
  obtain ⟨s', h⟩ := hL 72 N 0 s0 (by omega) (by omega) v0 (F0.mono (by decide) (by simp))
  refine ⟨s', ?_⟩
  unfold f_Mo_soonest
  rw [p0]
  exact h
-- the least sun
def mvN (v : Nat) : Nat := if v = 1000 then 1000000000 else v
def mAc (V : Nat → Nat) (sq : Nat) : Nat → Nat
  | 0 => 1000000000
  | i + 1 => match bsN sq i with
    | none => mAc V sq i
    | some n => min (mAc V sq i) (mvN (V n))
theorem mAc_succ (V : Nat → Nat) (sq i : Nat) : mAc V sq (i + 1) = match bsN sq i with
    | none => mAc V sq i
    | some n => min (mAc V sq i) (mvN (V n)) := rfl
theorem mvN_le {v : Nat} (h : v ≤ 1000) : mvN v ≤ 1000000000 := by
  unfold mvN
  by_cases c : v = 1000
  · rw [if_pos c]; omega
  · rw [if_neg c]; omega
theorem mAc_le (V : Nat → Nat) (sq : Nat) : ∀ i, mAc V sq i ≤ 1000000000 := by
  intro i
  induction i with
  | zero => exact Nat.le_refl _
  | succ i ih =>
    rw [mAc_succ]
    cases bsN sq i with
    | none => exact ih
    | some n => exact Nat.le_trans (Nat.min_le_left _ _) ih
theorem mvN_min {a b : Nat} (ha : a ≤ 1000) (hb : b ≤ 1000) : mvN (min a b) = min (mvN a) (mvN b) := by
  unfold mvN
  by_cases c1 : a = 1000 <;> by_cases c2 : b = 1000
  · rw [if_pos c1, if_pos c2, if_pos (by omega)]; omega
  · rw [if_pos c1, if_neg c2, if_neg (by omega)]; omega
  · rw [if_neg c1, if_pos c2, if_neg (by omega)]; omega
  · rw [if_neg c1, if_neg c2, if_neg (by omega)]
theorem mAc5 {V : Nat → Nat} (hV : ∀ q, V q ≤ 1000) (sq : Nat) : mAc V sq 5 = mvN (lA V sq) := by
  have h0 := mvN_le (hV sq)
  have h1 := mvN_le (hV (sq - 1))
  have h2 := mvN_le (hV (sq + 1))
  have h3 := mvN_le (hV (sq - 12))
  have h4 := mvN_le (hV (sq + 12))
  have a1 : mvN (lA1 V sq) = if 0 < sq % 12 then min (mvN (V sq)) (mvN (V (sq - 1))) else mvN (V sq) := by
    unfold lA1
    by_cases c : 0 < sq % 12
    · rw [if_pos c, if_pos c, mvN_min (hV _) (hV _)]
    · rw [if_neg c, if_neg c]
  have a2 : mvN (lA2 V sq) = if sq % 12 < 11 then min (mvN (lA1 V sq)) (mvN (V (sq + 1))) else mvN (lA1 V sq) := by
    unfold lA2
    by_cases c : sq % 12 < 11
    · rw [if_pos c, if_pos c, mvN_min (lA_le (hV sq)).2.2.2 (hV _)]
    · rw [if_neg c, if_neg c]
  have a3 : mvN (lA3 V sq) = if 12 ≤ sq then min (mvN (lA2 V sq)) (mvN (V (sq - 12))) else mvN (lA2 V sq) := by
    unfold lA3
    by_cases c : 12 ≤ sq
    · rw [if_pos c, if_pos c, mvN_min (lA_le (hV sq)).2.2.1 (hV _)]
    · rw [if_neg c, if_neg c]
  have a4 : mvN (lA V sq) = if sq < 132 then min (mvN (lA3 V sq)) (mvN (V (sq + 12))) else mvN (lA3 V sq) := by
    unfold lA
    by_cases c : sq < 132
    · rw [if_pos c, if_pos c, mvN_min (lA_le (hV sq)).2.1 (hV _)]
    · rw [if_neg c, if_neg c]
  rw [a4, a3, a2, a1]
  have b0 : bsN sq 0 = if sq < 132 then some (sq + 12) else none := rfl
  have b1 : bsN sq 1 = if sq % 12 < 11 then some (sq + 1) else none := rfl
  have b2 : bsN sq 2 = if 12 ≤ sq then some (sq - 12) else none := rfl
  have b3 : bsN sq 3 = if 0 < sq % 12 then some (sq - 1) else none := rfl
  have b4 : bsN sq 4 = some sq := rfl
  rw [mAc_succ, mAc_succ, mAc_succ, mAc_succ, mAc_succ, b0, b1, b2, b3, b4]
  have z : mAc V sq 0 = 1000000000 := rfl
  rw [z]
  have k0 := Nat.min_eq_right h0
  have k1 := Nat.min_eq_right h1
  have k2 := Nat.min_eq_right h2
  have k3 := Nat.min_eq_right h3
  have k4 := Nat.min_eq_right h4
  by_cases c1 : 0 < sq % 12 <;> by_cases c2 : sq % 12 < 11 <;> by_cases c3 : 12 ≤ sq <;> by_cases c4 : sq < 132 <;> simp only [c1, c2, c3, c4, if_true, if_false, k0, k1, k2, k3, k4] <;> simp only [Nat.min_left_comm, Nat.min_comm, Nat.min_assoc]
theorem mo_leastSunTo {N : Nat} {σ : Mem} {V : Nat → Nat} {sq : Nat} (hN : 100 < N) (hs : sq < 144) (hb : ∀ q, V q ≤ 1000) (hV : ∀ q, q < 144 → mI σ 92 q = nI (mvN (V q))) : f_Mo_leastSunTo N σ (nI sq) = some (nI (mvN (lA V sq))) := by
  unfold f_Mo_leastSunTo
  rw [← mAc5 hb]
  refine loopS (L := fun z (x : Int32 × Int32) => L_Mo_leastSunTo_l6 N (nI sq) σ z x.1 x.2) (fun i => (nI (mAc V sq i), nI i)) _ 5 (fun z i hi => ?_) (fun z => ?_) (by omega)
  · show B_Mo_leastSunTo_l6 N (nI sq) σ (L_Mo_leastSunTo_l6 N (nI sq) σ z) (nI (mAc V sq i)) (nI i) = L_Mo_leastSunTo_l6 N (nI sq) σ z (nI (mAc V sq (i + 1))) (nI (i + 1))
    unfold B_Mo_leastSunTo_l6
    rw [if_neg (show ¬ ((5 : Int32) ≤ nI i) from nI_ge (b := 5) hi (by decide)), mo_beside hs hi, mAc_succ]
    simp only [bnd1_s, letv, nI_1]
    cases hbn : bsN sq i with
    | none => rfl
    | some n =>
      have hn := bsN_lt hs hbn
      have l1 := mAc_le V sq i
      have l2 := mvN_le (hb n)
      show bnd1 (if nI n = -1 then _ else grd (inb (nI n) 144) (bnd1 (f_Mo_min (nI (mAc V sq i)) (mI σ 92 (nI n).toNatClampNeg)) fun r31 => some r31)) _ = _
      rw [if_neg (nIm1 (by omega)), grd_t (inb_j hn (by decide)), nI_clamp (by omega), hV n hn, mo_min, minI_n (by omega) (by omega)]
      rfl
  · show B_Mo_leastSunTo_l6 N (nI sq) σ _ _ (nI 5) = _
    unfold B_Mo_leastSunTo_l6
    rw [if_pos (by decide)]
theorem mo_sunStep {N : Nat} {σ σ0 : Mem} {a hr k : Nat} (hN : 1000 < N) (hD : DayEq σ0) (hh : hr < 24) (hk : k < 100) (F : Fr [92, 93] [(65, 45), (65, 46)] σ0 σ) (hV : ∀ q, q < 144 → mI σ 92 q = nI (mvN (wV σ0 a hr k q))) (a2 a4 : Int32) : ∃ σ', (bnd1 (L_Mo_laysLeastSun_l102 N a2 (nI hr) a4 (nI ((hr + k / 6) % 24)) N 0 σ) fun s => L_Mo_laysLeastSun_l183 N a2 (nI hr) a4 N 0 s) = some σ' ∧ ((∀ q, q < 144 → mI σ' 92 q = nI (mvN (wV σ0 a hr (k + 1) q))) ∧ Fr [92, 93] [] σ σ') := by
  have hm : (hr + k / 6) % 24 < 24 := Nat.mod_lt _ (by decide)
  obtain ⟨s1, p1, v1, F1⟩ : ∃ s, L_Mo_laysLeastSun_l102 N a2 (nI hr) a4 (nI ((hr + k / 6) % 24)) N 0 σ = some s ∧ ((∀ q, q < 144 → mI s 93 q = nI (mvN (wV σ0 a hr (k + 1) q))) ∧ Fr [93] [] σ s) := by
    refine loopR (L := fun z (x : Int32 × Mem) => L_Mo_laysLeastSun_l102 N a2 (nI hr) a4 (nI ((hr + k / 6) % 24)) z x.1 x.2) (P := fun i x => x.1 = nI i ∧ (∀ q, q < i → mI x.2 93 q = nI (mvN (wV σ0 a hr (k + 1) q))) ∧ Fr [93] [] σ x.2) (a := (0, σ)) 144 ?_ ?_ (by omega) ⟨rfl, fun q hq => absurd hq (Nat.not_lt_zero q), Fr.rf _ _ _⟩
    · rintro z i ⟨x, s⟩ hi ⟨h1, h2, h3⟩
      have hx : x = nI i := h1
      subst hx
      change Fr _ _ σ s at h3
      have Fs : Fr [92, 93] [(65, 45), (65, 46)] σ0 s := F.c h3 (by decide) (by simp)
      have Ds := hD.k (Fs.keeps (by decide))
      have hle := (lA_le (wV_le σ0 a hr k i)).1
      have hlt : lA (wV σ0 a hr k) i < 1000 → lA (wV σ0 a hr k) i ≤ k := fun h => by
        obtain ⟨n, hn⟩ := lA_some (wV σ0 a hr k) i
        have := wV_lt σ0 a hr k n
        rw [hn] at this
        exact this h
      refine Or.inr ⟨(nI (i + 1), sI s 93 i (nI (mvN (wV σ0 a hr (k + 1) i)))), ?_, rfl, fun q hq => ?_, h3.aI rfl (by decide)⟩
      · show B_Mo_laysLeastSun_l102 N a2 (nI hr) a4 (nI ((hr + k / 6) % 24)) (L_Mo_laysLeastSun_l102 N a2 (nI hr) a4 (nI ((hr + k / 6) % 24)) z) (nI i) s = _
        unfold B_Mo_laysLeastSun_l102
        rw [if_neg (show ¬ ((144 : Int32) ≤ nI i) from nI_ge (b := 144) hi (by decide))]
        simp only [letv, nI_1, grd_t (inb_j hi (show 144 < 2 ^ 31 by decide)), nI_clamp (show i < 2 ^ 31 by omega)]
        rw [mo_isDark Ds hm hi, mo_leastSunTo (V := wV σ0 a hr k) (by omega) hi (wV_le σ0 a hr k) (fun q hq => by rw [h3.I 92 q (by decide) (by simp)]; exact hV q hq), Ds.2.1 i hi, Fs.I 39 i (by decide) (by simp), Fs.I 34 _ (by decide) (by simp), who_k (Fs.rowI 38 (by decide) (by decide)) (Fs.rowI 39 (by decide) (by decide)), wV_succ]
        simp only [bnd1_s]
        by_cases c : mI σ0 39 i = 0
        · simp only [if_pos c, if_neg ne10, bnd1_s]
          by_cases c2 : lA (wV σ0 a hr k) i < 1000
          · have hl := hlt c2
            have e1 : mvN (lA (wV σ0 a hr k) i) = lA (wV σ0 a hr k) i := by unfold mvN; rw [if_neg (by omega)]
            rw [e1, if_pos (show nI (lA (wV σ0 a hr k) i) < 1000000000 from nI_lt (b := 1000000000) (by omega) (by decide))]
            by_cases c1 : mI σ0 34 ((hr + k / 6) % 24) ≠ 0 ∧ who σ0 ((hr + k / 6) % 24) i = 0
            · simp only [if_pos c1, if_true, bnd1_s]
              rw [if_pos ⟨c2, c1⟩, nI_1]
              have e2 : mvN (lA (wV σ0 a hr k) i + 1) = lA (wV σ0 a hr k) i + 1 := by unfold mvN; rw [if_neg (by omega)]
              rw [e2]
            · simp only [if_neg c1, if_neg ne10, bnd1_s]
              rw [if_neg (fun z : _ ∧ _ => c1 z.2), e1, Int32.add_zero]
          · have e1 : mvN (lA (wV σ0 a hr k) i) = 1000000000 := by unfold mvN; rw [if_pos (by omega)]
            rw [e1, if_neg (show ¬ nI 1000000000 < 1000000000 by decide), if_neg (fun z : _ ∧ _ => c2 z.1), e1]
            rfl
        · simp only [if_neg c, if_true, bnd1_s]
          rw [if_neg (by decide)]
          rfl
      · show mI (sI s 93 i _) 93 q = _
        rw [rdI]
        by_cases e : q = i
        · subst e; rw [if_pos ⟨rfl, rfl⟩]
        · rw [if_neg (fun z => e z.2)]
          exact h2 q (by omega)
    · rintro z ⟨x, s⟩ ⟨h1, h2, h3⟩
      have hx : x = nI 144 := h1
      subst hx
      refine ⟨s, ?_, h2, h3⟩
      show B_Mo_laysLeastSun_l102 N a2 (nI hr) a4 _ _ (nI 144) s = _
      unfold B_Mo_laysLeastSun_l102
      rw [if_pos (by decide)]
  rw [p1]
  simp only [bnd1_s]
  obtain ⟨s2, p2, v2, F2⟩ : ∃ s, L_Mo_laysLeastSun_l183 N a2 (nI hr) a4 N 0 s1 = some s ∧ ((∀ q, q < 144 → mI s 92 q = nI (mvN (wV σ0 a hr (k + 1) q))) ∧ Fr [92] [] s1 s) := by
    refine loopR (L := fun z (x : Int32 × Mem) => L_Mo_laysLeastSun_l183 N a2 (nI hr) a4 z x.1 x.2) (P := fun i x => x.1 = nI i ∧ (∀ q, q < i → mI x.2 92 q = nI (mvN (wV σ0 a hr (k + 1) q))) ∧ Fr [92] [] s1 x.2) (a := (0, s1)) 144 ?_ ?_ (by omega) ⟨rfl, fun q hq => absurd hq (Nat.not_lt_zero q), Fr.rf _ _ _⟩
    · rintro z i ⟨x, s⟩ hi ⟨h1, h2, h3⟩
      have hx : x = nI i := h1
      subst hx
      change Fr _ _ s1 s at h3
      refine Or.inr ⟨(nI (i + 1), sI s 92 i (nI (mvN (wV σ0 a hr (k + 1) i)))), ?_, rfl, fun q hq => ?_, h3.aI rfl (by decide)⟩
      · show B_Mo_laysLeastSun_l183 N a2 (nI hr) a4 (L_Mo_laysLeastSun_l183 N a2 (nI hr) a4 z) (nI i) s = _
        unfold B_Mo_laysLeastSun_l183
        rw [if_neg (show ¬ ((144 : Int32) ≤ nI i) from nI_ge (b := 144) hi (by decide))]
        simp only [letv, nI_1, grd_t (inb_j hi (show 144 < 2 ^ 31 by decide)), nI_clamp (show i < 2 ^ 31 by omega)]
        rw [h3.I 93 i (by decide) (by simp), v1 i hi]
      · show mI (sI s 92 i _) 92 q = _
        rw [rdI]
        by_cases e : q = i
        · subst e; rw [if_pos ⟨rfl, rfl⟩]
        · rw [if_neg (fun z => e z.2)]
          exact h2 q (by omega)
    · rintro z ⟨x, s⟩ ⟨h1, h2, h3⟩
      have hx : x = nI 144 := h1
      subst hx
      refine ⟨s, ?_, h2, h3⟩
      show B_Mo_laysLeastSun_l183 N a2 (nI hr) a4 _ (nI 144) s = _
      unfold B_Mo_laysLeastSun_l183
      rw [if_pos (by decide)]
  exact ⟨s2, p2, v2, (F1.mono (by decide) (by simp)).c F2 (by decide) (by simp)⟩
def bsS : Option (Nat × Nat) → Int32
  | none => 1000000000
  | some q => nI q.1
def bsP : Option (Nat × Nat) → Int32
  | none => -2
  | some q => nI q.2
theorem mo_laysLeastSun {N : Nat} {σ : Mem} {a b hr : Nat} (hN : 1000 < N) (hD : DayEq σ) (ha : a < 144) (hb : b < 144) (hh : hr < 24) : ∃ σ', f_Mo_laysLeastSun N σ (nI a) (nI b) (nI hr) = some σ' ∧ mI σ' 65 45 = bsS (bS (wV σ a hr) b 37) ∧ mI σ' 65 46 = bsP (bS (wV σ a hr) b 37) := by
  obtain ⟨s0, p0, v0, F0⟩ : ∃ s, L_Mo_laysLeastSun_l16 N (nI a) (nI b) (nI hr) N 0 (sI (sI σ 65 45 1000000000) 65 46 (-2)) = some s ∧ ((∀ q, q < 144 → mI s 92 q = nI (mvN (wV σ a hr 0 q))) ∧ Fr [92] [] (sI (sI σ 65 45 1000000000) 65 46 (-2)) s) := by
    refine loopR (L := fun z (x : Int32 × Mem) => L_Mo_laysLeastSun_l16 N (nI a) (nI b) (nI hr) z x.1 x.2) (P := fun i x => x.1 = nI i ∧ (∀ q, q < i → mI x.2 92 q = nI (mvN (wV σ a hr 0 q))) ∧ Fr [92] [] (sI (sI σ 65 45 1000000000) 65 46 (-2)) x.2) (a := (0, sI (sI σ 65 45 1000000000) 65 46 (-2))) 144 ?_ ?_ (by omega) ⟨rfl, fun q hq => absurd hq (Nat.not_lt_zero q), Fr.rf _ _ _⟩
    · rintro z i ⟨x, s⟩ hi ⟨h1, h2, h3⟩
      have hx : x = nI i := h1
      subst hx
      refine Or.inr ⟨(nI (i + 1), sI s 92 i (nI (mvN (wV σ a hr 0 i)))), ?_, rfl, fun q hq => ?_, h3.aI rfl (by decide)⟩
      · show B_Mo_laysLeastSun_l16 N (nI a) (nI b) (nI hr) (L_Mo_laysLeastSun_l16 N (nI a) (nI b) (nI hr) z) (nI i) s = _
        unfold B_Mo_laysLeastSun_l16
        rw [if_neg (show ¬ ((144 : Int32) ≤ nI i) from nI_ge (b := 144) hi (by decide))]
        simp only [letv, nI_1, grd_t (inb_j hi (show 144 < 2 ^ 31 by decide)), nI_clamp (show i < 2 ^ 31 by omega)]
        have e : (nI i = nI a) ↔ i = a := nI_eq (by omega) (by omega)
        have w0 : wV σ a hr 0 i = if i = a then 0 else 1000 := rfl
        rw [w0]
        by_cases c : i = a
        · rw [if_pos (e.mpr c), if_pos c]; rfl
        · rw [if_neg (fun z => c (e.mp z)), if_neg c]; rfl
      · show mI (sI s 92 i _) 92 q = _
        rw [rdI]
        by_cases e : q = i
        · subst e; rw [if_pos ⟨rfl, rfl⟩]
        · rw [if_neg (fun z => e z.2)]
          exact h2 q (by omega)
    · rintro z ⟨x, s⟩ ⟨h1, h2, h3⟩
      have hx : x = nI 144 := h1
      subst hx
      refine ⟨s, ?_, h2, h3⟩
      show B_Mo_laysLeastSun_l16 N (nI a) (nI b) (nI hr) _ (nI 144) s = _
      unfold B_Mo_laysLeastSun_l16
      rw [if_pos (by decide)]
  have FI : Fr [92, 93] [(65, 45), (65, 46)] σ (sI (sI σ 65 45 1000000000) 65 46 (-2)) := ((Fr.rf _ _ σ).fI (σ2 := sI σ 65 45 1000000000) rfl (by decide)).fI rfl (by decide)
  unfold f_Mo_laysLeastSun
  simp only [letv]
  rw [p0]
  simp only [bnd1_s]
  refine loopR (L := fun z (x : Int32 × Mem) => L_Mo_laysLeastSun_l53 N (nI b) (nI hr) z x.1 x.2) (P := fun i x => x.1 = nI i ∧ (∀ q, q < 144 → mI x.2 92 q = nI (mvN (wV σ a hr i q))) ∧ mI x.2 65 45 = bsS (bS (wV σ a hr) b i) ∧ mI x.2 65 46 = bsP (bS (wV σ a hr) b i) ∧ Fr [92, 93] [(65, 45), (65, 46)] σ x.2) (a := (0, s0)) 37 ?_ ?_ (by omega) ⟨rfl, v0, ?_, ?_, FI.c F0 (by decide) (by simp)⟩
  · rintro z i ⟨x, s⟩ hi ⟨h1, h2, h3, h4, h5⟩
    have hx : x = nI i := h1
    subst hx
    change ∀ q, q < 144 → mI s 92 q = _ at h2
    change mI s 65 45 = _ at h3
    change mI s 65 46 = _ at h4
    change Fr _ _ σ s at h5
    have hle := wV_le σ a hr i b
    have hml := mvN_le hle
    -- what is best now
    obtain ⟨t, ht, t45, t46, tF, t92⟩ : ∃ t, (if mI s 65 45 ≤ nI (mvN (wV σ a hr i b)) then some s else some (sI (sI s 65 45 (nI (mvN (wV σ a hr i b)))) 65 46 (nI i))) = some t ∧ mI t 65 45 = bsS (bS (wV σ a hr) b (i + 1)) ∧ mI t 65 46 = bsP (bS (wV σ a hr) b (i + 1)) ∧ Fr [92, 93] [(65, 45), (65, 46)] σ t ∧ mI t 92 = mI s 92 := by
      rw [h3, bS_succ]
      cases hq : bS (wV σ a hr) b i with
      | none =>
        rw [hq] at h3 h4
        by_cases c : wV σ a hr i b < 1000
        · have e1 : mvN (wV σ a hr i b) = wV σ a hr i b := by unfold mvN; rw [if_neg (by omega)]
          have hn : ¬ bsS none ≤ nI (mvN (wV σ a hr i b)) := by
            rw [e1]
            exact nI_ge (b := 1000000000) (by omega) (by decide)
          rw [if_neg hn, e1]
          refine ⟨_, rfl, ?_, ?_, (h5.fI (σ2 := sI s 65 45 _) rfl (by decide)).fI rfl (by decide), rfl⟩
          · simp only [if_pos c]
            rw [rdI, rdI]
            simp [bsS]
          · simp only [if_pos c]
            rw [rdI]
            simp [bsP]
        · have e1 : mvN (wV σ a hr i b) = 1000000000 := by unfold mvN; rw [if_pos (by omega)]
          rw [e1, if_pos (show bsS none ≤ nI 1000000000 by decide)]
          refine ⟨s, rfl, ?_, ?_, h5, rfl⟩
          · simp only [if_neg c]; exact h3
          · simp only [if_neg c]; exact h4
      | some q =>
        rw [hq] at h3 h4
        obtain ⟨q1, q2'⟩ := bS_ok _ b i q hq
        by_cases c : wV σ a hr i b < 1000 ∧ wV σ a hr i b < q.1
        · have e1 : mvN (wV σ a hr i b) = wV σ a hr i b := by unfold mvN; rw [if_neg (by omega)]
          have hn : ¬ bsS (some q) ≤ nI (mvN (wV σ a hr i b)) := by
            rw [e1]
            exact nI_ge c.2 (by omega)
          rw [if_neg hn, e1]
          refine ⟨_, rfl, ?_, ?_, (h5.fI (σ2 := sI s 65 45 _) rfl (by decide)).fI rfl (by decide), rfl⟩
          · simp only [if_pos c]
            rw [rdI, rdI]
            simp [bsS]
          · simp only [if_pos c]
            rw [rdI]
            simp [bsP]
        · have hn : bsS (some q) ≤ nI (mvN (wV σ a hr i b)) := by
            refine nI_le ?_ (by omega)
            unfold mvN
            by_cases c2 : wV σ a hr i b = 1000
            · rw [if_pos c2]; omega
            · rw [if_neg c2]; omega
          rw [if_pos hn]
          refine ⟨s, rfl, ?_, ?_, h5, rfl⟩
          · simp only [if_neg c]; exact h3
          · simp only [if_neg c]; exact h4
    obtain ⟨s', p', v', F'⟩ := mo_sunStep (N := N) (a := a) hN hD hh (k := i) (by omega) tF (fun q hq => by rw [t92]; exact h2 q hq) (nI b) (nI i)
    obtain ⟨u, u1, u2⟩ := bnd1_e p'
    refine Or.inr ⟨(nI (i + 1), s'), ?_, rfl, v', (F'.I 65 45 (by decide) (by simp)).trans t45, (F'.I 65 46 (by decide) (by simp)).trans t46, tF.c F' (by decide) (by simp)⟩
    show B_Mo_laysLeastSun_l53 N (nI b) (nI hr) (L_Mo_laysLeastSun_l53 N (nI b) (nI hr) z) (nI i) s = _
    unfold B_Mo_laysLeastSun_l53
    rw [if_neg (show ¬ ((36 : Int32) < nI i) from nI_nlt (a := 36) (by omega) (by decide)), grd_t (inb_j hb (by decide)), grd_t (inb_j hb (by decide)), nI_clamp (by omega), h2 b hb]
    simp only [letv]
    rw [ht]
    simp only [bnd1_s]
    rw [mo_hourOf hh (by omega)]
    simp only [bnd1_s]
    rw [u1]
    simp only [bnd1_s]
    rw [u2]
    simp only [bnd1_s, nI_1]
  · rintro z ⟨x, s⟩ ⟨h1, h2, h3, h4, h5⟩
    have hx : x = nI 37 := h1
    subst hx
    refine ⟨s, ?_, h3, h4⟩
    show B_Mo_laysLeastSun_l53 N (nI b) (nI hr) _ (nI 37) s = _
    unfold B_Mo_laysLeastSun_l53
    rw [if_pos (by decide)]
  · show mI s0 65 45 = _
    rw [F0.I 65 45 (by decide) (by simp), sI_n _ _ (by decide), sI_s]
    rfl
  · show mI s0 65 46 = _
    rw [F0.I 65 46 (by decide) (by simp), sI_s]
    rfl
theorem wV_k {σ σ' : Mem} (g : Keeps [34, 38, 39] [] σ σ') (a hr : Nat) : wV σ' a hr = wV σ a hr := by
  funext k
  induction k with
  | zero => rfl
  | succ k ih =>
    funext sq
    rw [wV_succ, wV_succ, ih, g.r 34 (by decide), g.r 39 (by decide), who_k (g.r 38 (by decide)) (g.r 39 (by decide))]
theorem daFree_cases (σ : Mem) (a : Int32) : f_Da_isFree σ a = some 0 ∨ (f_Da_isFree σ a = some 1 ∧ ∃ sq, sq < 144 ∧ a = nI sq ∧ mI σ 39 sq = 0) := by
  unfold f_Da_isFree
  rcases pk_ix a (n := 144) (by decide) with q | q | ⟨sq, hs, rfl⟩
  · exact Or.inl (by rw [if_pos q])
  · by_cases q0 : a < 0
    · exact Or.inl (by rw [if_pos q0])
    · exact Or.inl (by rw [if_neg q0, if_pos (show (144 : Int32) ≤ a from q)])
  · rw [if_neg (nI_pos (by omega)), if_neg (show ¬ ((144 : Int32) ≤ nI sq) from nI_ge (b := 144) hs (by decide)), grd_t (inb_j hs (by decide)), nI_clamp (by omega)]
    by_cases c : mI σ 39 sq = 0
    · exact Or.inr ⟨by rw [if_pos c], sq, hs, rfl, c⟩
    · exact Or.inl (by rw [if_neg c])
theorem mo_in01 (a lo hi : Int32) : f_Mo_in a lo hi = some 0 ∨ f_Mo_in a lo hi = some 1 := by
  rw [mo_in]
  by_cases c1 : a < lo
  · exact Or.inl (by rw [if_pos c1])
  · by_cases c2 : hi < a
    · exact Or.inl (by rw [if_neg c1, if_pos c2])
    · exact Or.inr (by rw [if_neg c1, if_neg c2])
theorem st_walk {N : Nat} (hN : 70000 ≤ N) : St_walk N := by
  intro σ a1 a2 a3 a4 hI
  obtain ⟨σ1, t1, I1, R1⟩ := today_ok hN hI
  unfold f_Sh_walk
  rw [t1]
  simp only [bnd1_s]
  -- the reference's tests, one by one
  have mno : ∀ s : Mem, (f_Mo_in a1 0 143 = some 0 ∨ f_Mo_in a2 0 143 = some 0 ∨ f_Mo_isHour a3 = some 0 ∨ f_Mo_in a4 0 2 = some 0 ∨ (f_Mo_in a1 0 143 = some 1 ∧ f_Mo_isFree N s a1 = some 0) ∨ (f_Mo_in a1 0 143 = some 1 ∧ f_Mo_isFree N s a1 = some 1 ∧ f_Mo_isFree N s a2 = some 0)) → f_Mo_walk N s a1 a2 a3 a4 = some (-1, s) := fun s h => by
    unfold f_Mo_walk
    have hh : f_Mo_isHour a3 = some 0 ∨ f_Mo_isHour a3 = some 1 := by
      rcases hour_cases a3 with h | ⟨h, -⟩
      · exact Or.inl h
      · exact Or.inr h
    rcases mo_in01 a1 0 143 with b1 | b1
    · rw [b1]; rfl
    rcases mo_in01 a2 0 143 with b2 | b2
    · rw [b1, b2]; rfl
    rcases hh with b3 | b3
    · rw [b1, b2, b3]; rfl
    rcases mo_in01 a4 0 2 with b4 | b4
    · rw [b1, b2, b3, b4]; rfl
    rw [b1, b2, b3, b4] at h ⊢
    simp only [bnd1_s, if_neg ne10]
    rcases h with h | h | h | h | ⟨-, h⟩ | ⟨-, h, h'⟩
    · exact absurd h (by decide)
    · exact absurd h (by decide)
    · exact absurd h (by decide)
    · exact absurd h (by decide)
    · rw [h]; rfl
    · rw [h]
      simp only [bnd1_s, if_neg ne10]
      rw [h']; rfl
  rcases hour_cases a3 with h3 | ⟨h3, hr, hh, rfl⟩
  · exact ⟨-1, σ1, σ1, by rw [h3]; rfl, mno σ1 (Or.inr (Or.inr (Or.inl h3))), I1⟩
  rw [h3]
  simp only [bnd1_s, if_neg ne10]
  rcases in_casesB a4 2 (by decide) with ⟨g, g'⟩ | ⟨g, g1, g2, w, hw, rfl⟩
  · refine ⟨-1, σ1, σ1, ?_, mno σ1 (Or.inr (Or.inr (Or.inr (Or.inl g)))), I1⟩
    rcases g' with g' | ⟨g', g2⟩
    · rw [if_pos g']
    · rw [if_neg g', if_pos (show (2 : Int32) < a4 from Int32.not_le.mp g2)]
  rw [if_neg g1, if_neg (show ¬ (2 : Int32) < nI w from Int32.not_lt.mpr g2)]
  have nofree : ∀ a : Int32, f_Da_isFree σ1 a = some 0 → f_Mo_in a 0 143 = some 0 ∨ (f_Mo_in a 0 143 = some 1 ∧ f_Mo_isFree N σ1 a = some 0) := fun a h => by
    rcases in_cases a 143 (by decide) with h1 | ⟨h1, sq, hs, rfl⟩
    · exact Or.inl h1
    · refine Or.inr ⟨h1, ?_⟩
      rw [free_b (by omega) I1 R1 (show sq < 144 by omega)]
      rw [da_isFree (by omega)] at h
      exact h
  rcases daFree_cases σ1 a1 with f1 | ⟨f1, a, ha, rfl, z1⟩
  · refine ⟨-1, σ1, σ1, by rw [f1]; rfl, mno σ1 ?_, I1⟩
    rcases nofree a1 f1 with h | h
    · exact Or.inl h
    · exact Or.inr (Or.inr (Or.inr (Or.inr (Or.inl h))))
  have m1 : f_Mo_in (nI a) 0 143 = some 1 := by
    rw [mo_in, if_neg (nI_pos (by omega)), if_neg (show ¬ (143 : Int32) < nI a from nI_nlt (a := 143) (by omega) (by decide))]
  have e1 : f_Mo_isFree N σ1 (nI a) = some 1 := by rw [free_b (by omega) I1 R1 ha, if_pos z1]
  rcases daFree_cases σ1 a2 with f2 | ⟨f2, b, hb, rfl, z2⟩
  · refine ⟨-1, σ1, σ1, by rw [f1, f2]; rfl, mno σ1 ?_, I1⟩
    rcases nofree a2 f2 with h | ⟨h, h'⟩
    · exact Or.inr (Or.inl h)
    · exact Or.inr (Or.inr (Or.inr (Or.inr (Or.inr ⟨m1, e1, h'⟩))))
  have m2 : f_Mo_in (nI b) 0 143 = some 1 := by
    rw [mo_in, if_neg (nI_pos (by omega)), if_neg (show ¬ (143 : Int32) < nI b from nI_nlt (a := 143) (by omega) (by decide))]
  rw [f1, f2]
  simp only [bnd1_s, if_neg ne10]
  have g : f_Mo_in (nI w) 0 2 = some 1 := g
  have hfr : ∀ s : Mem, Inv N s → Rdy s → mI s 39 = mI σ1 39 → f_Mo_isFree N s (nI a) = some 1 ∧ f_Mo_isFree N s (nI b) = some 1 := fun s Is Rs e => by
    rw [free_b (by omega) Is Rs ha, free_b (by omega) Is Rs hb, e, if_pos z1, if_pos z2]
    exact ⟨rfl, rfl⟩
  by_cases cw : w = 0
  · subst cw
    obtain ⟨s2, p2, I2, F2⟩ := wa_soonest (N := N) (by omega) I1 R1 ha hb hh
    have R2 := R1.k (F2.keeps (by decide))
    obtain ⟨σ3, p3, D3, I3, R3, F3⟩ := mo_laysDay hN I2 R2
    obtain ⟨s4, p4⟩ := mo_soonest (N := N) (by omega) D3 ha hb hh
    have F23 : Fr [45, 46, 84, 85, 86, 87, 88] [(44, 0), (44, 1), (65, 37)] σ1 σ3 := (F2.mono (by decide) (by decide)).c F3 (by decide) (by decide)
    rw [wV_k (F23.keeps (by decide))] at p4
    have F4 := fm_Mo_soonest p4
    obtain ⟨y1, y2⟩ := hfr s2 I2 R2 (F2.rowI 39 (by decide) (by decide))
    refine ⟨snS (wV σ1 a hr) b 0 72, s2, s4, ?_, ?_, I3.k (F4.keeps (by decide))⟩
    · rw [if_pos nI_0, p2]
      rfl
    · unfold f_Mo_walk
      rw [m1, m2, mo_isHour, h3, g]
      simp only [bnd1_s, if_neg ne10]
      rw [y1, y2]
      simp only [bnd1_s, if_neg ne10]
      rw [p3]
      simp only [bnd1_s]
      rw [if_pos nI_0, p4]
      rfl
  · obtain ⟨s2, p2, I2, F2⟩ := wa_leastSun (N := N) (by omega) I1 R1 ha hb hh
    have R2 := R1.k (F2.keeps (by decide))
    obtain ⟨σ3, p3, D3, I3, R3, F3⟩ := mo_laysDay hN I2 R2
    obtain ⟨s4, p4, v4, w4⟩ := mo_laysLeastSun (N := N) (by omega) D3 ha hb hh
    have F23 : Fr [45, 46, 84, 85, 86, 87, 88] [(44, 0), (44, 1), (65, 37)] σ1 σ3 := (F2.mono (by decide) (by decide)).c F3 (by decide) (by decide)
    rw [wV_k (F23.keeps (by decide))] at v4 w4
    have F4 := fm_Mo_laysLeastSun p4
    obtain ⟨y1, y2⟩ := hfr s2 I2 R2 (F2.rowI 39 (by decide) (by decide))
    have cw' : ¬ nI w = 0 := nI_ne0 (by omega) (by omega)
    have hok := bS_ok (wV σ1 a hr) b 37
    generalize bS (wV σ1 a hr) b 37 = B at p2 v4 w4 hok
    have hm : f_Mo_walk N s2 (nI a) (nI b) (nI hr) (nI w) = if mI s4 65 46 = -2 then some (-2, s4) else if nI w = 1 then some (mI s4 65 45, s4) else some (mI s4 65 46, s4) := by
      unfold f_Mo_walk
      rw [m1, m2, mo_isHour, h3, g]
      simp only [bnd1_s, if_neg ne10]
      rw [y1, y2]
      simp only [bnd1_s, if_neg ne10]
      rw [p3]
      simp only [bnd1_s]
      rw [if_neg cw', p4]
      rfl
    rw [if_neg cw', p2]
    simp only [bnd2_s]
    cases B with
    | none =>
      refine ⟨-2, s2, s4, rfl, ?_, I3.k (F4.keeps (by decide))⟩
      rw [hm, w4, if_pos (show bsP none = -2 from rfl)]
    | some q =>
      obtain ⟨q1, q2'⟩ := hok q rfl
      have hp : (0 : Int32) ≤ nI (q.1 * 1000 + q.2) := nI_pos' (by omega)
      have hm' : ¬ mI s4 65 46 = -2 := by rw [w4]; exact nIm2 (by omega)
      rw [if_neg hm'] at hm
      have hdv : nI (q.1 * 1000 + q.2) / 1000 = nI q.1 := by
        have := pk_div (a := q.1 * 1000 + q.2) (d := 1000) (by omega) (by decide) (by decide)
        rw [show (q.1 * 1000 + q.2) / 1000 = q.1 by omega] at this
        exact this
      have hrm : nI (q.1 * 1000 + q.2) - nI (q.1 * 1000 + q.2) / 1000 * 1000 = nI q.2 := by
        have := pk_rem (a := q.1 * 1000 + q.2) (d := 1000) (by omega) (by decide) (by decide)
        rw [show (q.1 * 1000 + q.2) % 1000 = q.2 by omega] at this
        exact this
      refine ⟨if nI w = 1 then nI q.1 else nI q.2, s2, s4, ?_, ?_, I3.k (F4.keeps (by decide))⟩
      · show (if (0 : Int32) ≤ nI (q.1 * 1000 + q.2) then (if nI w = 1 then some (nI (q.1 * 1000 + q.2) / 1000, s2) else some (nI (q.1 * 1000 + q.2) - nI (q.1 * 1000 + q.2) / 1000 * 1000, s2)) else some (-2, s2)) = _
        rw [if_pos hp, hrm, hdv]
        by_cases c1 : nI w = 1
        · rw [if_pos c1, if_pos c1]
        · rw [if_neg c1, if_neg c1]
      · rw [hm, v4, w4]
        by_cases c1 : nI w = 1
        · rw [if_pos c1, if_pos c1]; rfl
        · rw [if_neg c1, if_neg c1]; rfl
