-- ===== strips: rows of both sides =====
theorem bA_le {T : Nat → Nat} {d : Nat} (ho : TOk2 T d) (hd : d ≤ 12) (sq : Nat) : (bA T sq 4).2 ≤ 268435456 := by
  rw [bA_cst]
  exact (cst_ok ho hd sq _).1
section StripC
variable {N : Nat} {W : LW}
theorem st_reckon {σ σ0 : Mem} {f k : Nat} {a3 : Int32} {b : Nat → Nat} (hN : 1000 < N) (hI : Inv N σ0) (hR : Rdy σ0) (hL : DayL N σ0 W) (hk : k < 12) (hf : f + k < 24) (F : Fr [8, 9, 42, 43] [(41, 2), (41, 3)] σ0 σ) (e41 : mI σ 41 2 = nI f)
    (hb : (a3 = 1 ∧ b = fun _ => 0) ∨ (a3 = 0 ∧ ∃ T d, d ≤ 12 ∧ k + 1 < 12 ∧ rwC σ (k + 1) T ∧ TOk2 T d ∧ b = fun sq => (bA T sq 4).2)) : ∃ σ', f_St_reckonHour N σ (nI k) a3 = some σ' ∧ (rwC σ' k (rT W σ0 (f + k) b) ∧ (∀ j, (j < 144 * k ∨ 144 * k + 144 ≤ j) → mI σ' 42 j = mI σ 42 j) ∧ Fr [8, 9, 42] [] σ σ') := by
  unfold f_St_reckonHour
  refine loopR (L := fun z (x : Int32 × Mem) => L_St_reckonHour_l3 N (nI k) a3 z x.1 x.2) (P := fun i x => x.1 = nI i ∧ (∀ s, s < i → mI x.2 42 (144 * k + s) = nI (rT W σ0 (f + k) b s)) ∧ (∀ j, (j < 144 * k ∨ 144 * k + 144 ≤ j) → mI x.2 42 j = mI σ 42 j) ∧ Fr [8, 9, 42] [] σ x.2) (a := (0, σ)) 144 ?_ ?_ (by omega) ⟨rfl, fun s hs => absurd hs (Nat.not_lt_zero s), fun _ _ => rfl, Fr.rf _ _ _⟩
  · rintro z i ⟨x, s⟩ hi ⟨h1, h2, h3, h4⟩
    have hx : x = nI i := h1
    subst hx
    change ∀ q, q < i → mI s 42 (144 * k + q) = _ at h2
    change ∀ j, _ → mI s 42 j = _ at h3
    change Fr _ _ σ s at h4
    have Fs : Fr [8, 9, 42, 43] [(41, 2), (41, 3)] σ0 s := F.c h4 (by decide) (by simp)
    have Is := hI.k (Fs.keeps (by decide))
    have Rs := hR.k (Fs.keeps (by decide))
    have r38 : mI s 38 = mI σ0 38 := Fs.rowI 38 (by decide) (by decide)
    have r39 : mI s 39 = mI σ0 39 := Fs.rowI 39 (by decide) (by decide)
    obtain ⟨s1, p1⟩ := da_priceOf (N := N) (W := W) (by omega) Is Rs (hL.k (Fs.keeps (by decide))) hf hi
    have F1 := fm_Da_priceOf p1
    rw [prc_k W (Fs.I 19 8 (by decide) (by decide)) r38 r39, (pN_ok W σ0 (f + k) i).2] at p1
    have hp := (pN_ok W σ0 (f + k) i).1
    -- what comes behind
    have hbi : b i ≤ 268435456 ∧ (bnd1 (if a3 = 0 then (bnd1 (f_St_bestAfter N s (nI k + 1) (nI i)) fun r50 => bnd1 (f_St_costAfter s (nI k + 1) (nI i) r50) fun r53 => some r53) else some 0) fun y => some y) = some (nI (b i)) := by
      rcases hb with ⟨rfl, rfl⟩ | ⟨rfl, T, d, hd, hk1, hT, ho, rfl⟩
      · exact ⟨by show 0 ≤ 268435456; omega, rfl⟩
      · have hT' : rwC s (k + 1) T := fun q hq => by rw [h3 _ (by omega)]; exact hT q hq
        have hb1 := (bA_ok T hi 4).1
        refine ⟨bA_le ho hd i, ?_⟩
        rw [if_pos rfl, nI_1, st_bestAfter (by omega) hk1 hT' ho hi]
        simp only [bnd1_s]
        rw [st_costAfter hk1 hT' ho hi hb1, ← bA_cst]
        rfl
    obtain ⟨hb1, hb2⟩ := hbi
    have hw : f_Da_whoCasts s (mI s 41 2 + nI k) (nI i) = some (who σ0 (f + k) i) := by
      rw [h4.I 41 2 (by decide) (by simp), e41, nI_add, da_whoCasts hf hi, who_k r38 r39]
    have hpr : f_Da_priceOf N s (mI s 41 2 + nI k) (nI i) = some (nI (pN W σ0 (f + k) i), s1) := by
      rw [h4.I 41 2 (by decide) (by simp), e41, nI_add, p1]
    -- the new memory
    obtain ⟨t, ht, t42, tF⟩ : ∃ t, (bnd1 (if who σ0 (f + k) i = 0 then some 268435456 else some (nI (b i))) fun y27_5 => bnd1 (if 268435456 ≤ y27_5 then some (y27_5, s) else bnd2 (f_Da_priceOf N s (mI s 41 2 + nI k) (nI i)) fun r78 σ78 => some (y27_5 + 16 * r78, σ78)) fun s62 => some s62) = some (nI (rT W σ0 (f + k) b i), t) ∧ mI t 42 = mI s 42 ∧ Fr [8, 9] [] s t := by
      unfold rT
      by_cases c : who σ0 (f + k) i = 0
      · rw [if_pos c, if_pos c]
        refine ⟨s, ?_, rfl, Fr.rf _ _ _⟩
        simp only [bnd1_s]
        rw [if_pos (by decide)]
        rfl
      · rw [if_neg c, if_neg c]
        simp only [bnd1_s]
        by_cases c2 : b i < 268435456
        · rw [if_neg (show ¬ (268435456 : Int32) ≤ nI (b i) from nI_ge (b := 268435456) c2 (by decide)), if_pos c2, hpr]
          refine ⟨s1, ?_, F1.rowI 42 (by decide) (by simp), F1⟩
          show some (nI (b i) + 16 * nI (pN W σ0 (f + k) i), s1) = _
          rw [show (16 : Int32) * nI (pN W σ0 (f + k) i) = nI (16 * pN W σ0 (f + k) i) from pk_mul 16 _, nI_add]
        · rw [if_pos (show (268435456 : Int32) ≤ nI (b i) from nI_le (a := 268435456) (by omega) (by omega)), if_neg c2, show b i = 268435456 by omega]
          exact ⟨s, rfl, rfl, Fr.rf _ _ _⟩
    refine Or.inr ⟨(nI (i + 1), sI t 42 (144 * k + i) (nI (rT W σ0 (f + k) b i))), ?_, rfl, fun q hq => ?_, fun j hj => ?_, (h4.c tF (by decide) (by simp)).aI rfl (by decide)⟩
    · show B_St_reckonHour_l3 N (nI k) a3 (L_St_reckonHour_l3 N (nI k) a3 z) (nI i) s = _
      unfold B_St_reckonHour_l3
      rw [if_neg (show ¬ ((144 : Int32) ≤ nI i) from nI_ge (b := 144) hi (by decide)), hw]
      simp only [bnd1_s, letv, nI_1, ixC]
      rw [show (if who σ0 (f + k) i = 0 then some 268435456 else bnd1 (if a3 = 0 then (bnd1 (f_St_bestAfter N s (nI (k + 1)) (nI i)) fun r50 => bnd1 (f_St_costAfter s (nI (k + 1)) (nI i) r50) fun r53 => some r53) else some 0) fun y31_s0 => some y31_s0) = (if who σ0 (f + k) i = 0 then some 268435456 else some (nI (b i))) by
        rw [nI_1] at hb2
        rw [hb2]]
      obtain ⟨y, y1, y2⟩ := bnd1_e ht
      rw [y1]
      simp only [bnd1_s]
      obtain ⟨u, u1, u2⟩ := bnd1_e y2
      rw [u1]
      have hu := Option.some.inj u2
      rw [hu]
      simp only [bnd1_s, q2]
      rw [grd_t (inb_j (by omega) (by decide)), nI_clamp (by omega)]
    · show mI (sI t 42 (144 * k + i) _) 42 (144 * k + q) = _
      rw [rdI]
      by_cases e : q = i
      · subst e; rw [if_pos ⟨rfl, rfl⟩]
      · rw [if_neg (fun z => by omega), t42]
        exact h2 q (by omega)
    · show mI (sI t 42 (144 * k + i) _) 42 j = _
      rw [sI_n _ _ (by omega), t42]
      exact h3 j hj
  · rintro z ⟨x, s⟩ ⟨h1, h2, h3, h4⟩
    have hx : x = nI 144 := h1
    subst hx
    refine ⟨s, ?_, h2, h3, h4⟩
    show B_St_reckonHour_l3 N (nI k) a3 _ (nI 144) s = _
    unfold B_St_reckonHour_l3
    rw [if_pos (by decide)]
theorem st_rows {σ σ0 : Mem} {f n : Nat} (hN : 1000 < N) (hI : Inv N σ0) (hR : Rdy σ0) (hL : DayL N σ0 W) (hn : n ≤ 12) (hn1 : 1 ≤ n) (hf : f + n ≤ 24) (F : Fr [8, 9, 42, 43] [(41, 2), (41, 3)] σ0 σ) (e41 : mI σ 41 2 = nI f) : ∃ σ', L_St_find_l27 N (nI n) N (nI n - 1) σ = some σ' ∧ ((∀ r, r < n → rwC σ' r (sT W σ0 (f + n - 1) (n - 1 - r))) ∧ Fr [8, 9, 42] [] σ σ') := by
  rw [Int32.sub_eq_add_neg]
  obtain ⟨s, p, v, F'⟩ := loopR (L := fun z (x : Int32 × Mem) => L_St_find_l27 N (nI n) z x.1 x.2) (P := fun i x => x.1 = nI (n - i) + -1 ∧ (∀ r, n - i ≤ r → r < n → rwC x.2 r (sT W σ0 (f + n - 1) (n - 1 - r))) ∧ Fr [8, 9, 42] [] σ x.2) (Q := fun s => (∀ r, n - n ≤ r → r < n → rwC s r (sT W σ0 (f + n - 1) (n - 1 - r))) ∧ Fr [8, 9, 42] [] σ s) (a := (nI n + -1, σ)) (K := N) n (by
    rintro z i ⟨x, s⟩ hi ⟨h1, h2, h3⟩
    have hx : x = nI (n - 1 - i) := by
      have : x = nI (n - i) + -1 := h1
      rw [this, show n - i = (n - 1 - i) + 1 by omega]
      exact pk_m1 _
    subst hx
    change ∀ r, n - i ≤ r → r < n → rwC s r _ at h2
    change Fr _ _ σ s at h3
    have Fs : Fr [8, 9, 42, 43] [(41, 2), (41, 3)] σ0 s := F.c h3 (by decide) (by simp)
    obtain ⟨b, hbT, hbb⟩ : ∃ b, sT W σ0 (f + n - 1) i = rT W σ0 (f + (n - 1 - i)) b ∧ (((if i = 0 then 1 else 0 : Int32) = 1 ∧ b = fun _ => 0) ∨ ((if i = 0 then 1 else 0 : Int32) = 0 ∧ ∃ T d, d ≤ 12 ∧ n - 1 - i + 1 < 12 ∧ rwC s (n - 1 - i + 1) T ∧ TOk2 T d ∧ b = fun sq => (bA T sq 4).2)) := by
      cases i with
      | zero => exact ⟨fun _ => 0, by rw [show f + (n - 1 - 0) = f + n - 1 by omega]; rfl, Or.inl ⟨rfl, rfl⟩⟩
      | succ i =>
        refine ⟨fun sq => (bA (sT W σ0 (f + n - 1) i) sq 4).2, ?_, Or.inr ⟨rfl, sT W σ0 (f + n - 1) i, i, by omega, by omega, ?_, sT_ok W σ0 _ i (by omega), rfl⟩⟩
        · show rT W σ0 (f + n - 1 - (i + 1)) _ = _
          rw [show f + n - 1 - (i + 1) = f + (n - 1 - (i + 1)) by omega]
        · have := h2 (n - 1 - (i + 1) + 1) (by omega) (by omega)
          rw [show n - 1 - (n - 1 - (i + 1) + 1) = i by omega] at this
          exact this
    obtain ⟨s', p', v', w', F''⟩ := st_reckon (N := N) (W := W) (σ := s) (k := n - 1 - i) hN hI hR hL (by omega) (by omega) Fs ((h3.I 41 2 (by decide) (by simp)).trans e41) hbb
    refine Or.inr ⟨(nI (n - 1 - i) + -1, s'), ?_, by rw [show n - (i + 1) = n - 1 - i by omega], fun r hr1 hr2 => ?_, h3.t F''⟩
    · show B_St_find_l27 N (nI n) (L_St_find_l27 N (nI n) z) (nI (n - 1 - i)) s = _
      unfold B_St_find_l27
      have ey : (if nI (n - 1 - i) = nI n - 1 then some 1 else some 0 : Option Int32) = some (if i = 0 then 1 else 0) := by
        rw [show nI n - 1 = nI (n - 1) from pk_sub (b := 1) (by omega)]
        by_cases c : i = 0
        · subst c; rw [if_pos (by rw [Nat.sub_zero]), if_pos rfl]
        · rw [if_neg (fun z => by have := (nI_eq (by omega) (by omega)).mp z; omega), if_neg c]
      rw [if_neg (nI_pos (by omega)), ey]
      simp only [bnd1_s]
      rw [p']
      rfl
    · by_cases e : r = n - 1 - i
      · subst e
        rw [show n - 1 - (n - 1 - i) = i by omega, hbT]
        exact v'
      · intro q hq
        show mI s' 42 _ = _
        rw [w' _ (by omega)]
        exact h2 r (by omega) hr2 q hq) (by
    rintro z ⟨x, s⟩ ⟨h1, h2, h3⟩
    have hx : x = nI (n - n) + -1 := h1
    rw [Nat.sub_self] at hx
    subst hx
    refine ⟨s, ?_, h2, h3⟩
    show B_St_find_l27 N (nI n) _ (nI 0 + -1) s = _
    unfold B_St_find_l27
    rw [if_pos (by decide)]) (by omega) ⟨by rw [Nat.sub_zero], fun r h1 h2 => by omega, Fr.rf _ _ _⟩
  exact ⟨s, p, fun r hr => v r (by omega) hr, F'⟩
/-- the least of the first i squares, the lowest of like ones -/
def mn (T : Nat → Nat) : Nat → Nat × Nat
  | 0 => (268435456, 0)
  | i + 1 => if T i < (mn T i).1 then (T i, i) else mn T i
theorem mn_succ (T : Nat → Nat) (i : Nat) : mn T (i + 1) = if T i < (mn T i).1 then (T i, i) else mn T i := rfl
theorem mn_ok {T : Nat → Nat} : ∀ i, (mn T i).1 ≤ 268435456 ∧ (∀ q, q < i → (mn T i).1 ≤ T q) ∧ ((mn T i).1 < 268435456 → (mn T i).2 < i ∧ T (mn T i).2 = (mn T i).1 ∧ ∀ q, q < (mn T i).2 → T q ≠ (mn T i).1) := by
  intro i
  induction i with
  | zero => exact ⟨Nat.le_refl _, fun q hq => absurd hq (Nat.not_lt_zero q), fun h => absurd h (Nat.lt_irrefl _)⟩
  | succ i ih =>
    obtain ⟨h1, h2, h3⟩ := ih
    rw [mn_succ]
    by_cases c : T i < (mn T i).1
    · rw [if_pos c]
      refine ⟨by show T i ≤ _; omega, fun q hq => ?_, fun _ => ⟨by show i < i + 1; omega, rfl, fun q hq => ?_⟩⟩
      · show T i ≤ T q
        rcases (show q < i ∨ q = i by omega) with z | rfl
        · have := h2 q z; omega
        · exact Nat.le_refl _
      · show T q ≠ T i
        have := h2 q hq
        omega
    · rw [if_neg c]
      refine ⟨h1, fun q hq => ?_, fun h => ?_⟩
      · rcases (show q < i ∨ q = i by omega) with z | rfl
        · exact h2 q z
        · omega
      · obtain ⟨g1, g2, g3⟩ := h3 h
        exact ⟨by omega, g2, g3⟩
theorem st_first {σ : Mem} {T : Nat → Nat} {d : Nat} (hN : 1000 < N) (hT : rwC σ 0 T) (ho : TOk2 T d) (e : mI σ 41 3 = 268435456) (a4 : Int32) : ∃ σ', L_St_find_l62 N a4 N 0 σ = some σ' ∧ (mI σ' 41 3 = nI (mn T 144).1 ∧ ((mn T 144).1 < 268435456 → mI σ' 43 0 = nI (mn T 144).2) ∧ Fr [43] [(41, 3)] σ σ') := by
  refine loopR (L := fun z (x : Int32 × Mem) => L_St_find_l62 N a4 z x.1 x.2) (P := fun i x => x.1 = nI i ∧ mI x.2 41 3 = nI (mn T i).1 ∧ ((mn T i).1 < 268435456 → mI x.2 43 0 = nI (mn T i).2) ∧ Fr [43] [(41, 3)] σ x.2) (a := (0, σ)) 144 ?_ ?_ (by omega) ⟨rfl, e, fun h => absurd h (Nat.lt_irrefl _), Fr.rf _ _ _⟩
  · rintro z i ⟨x, s⟩ hi ⟨h1, h2, h3, h4⟩
    have hx : x = nI i := h1
    subst hx
    change mI s 41 3 = _ at h2
    change _ → mI s 43 0 = _ at h3
    change Fr _ _ σ s at h4
    have hT' : mI s 42 i = nI (T i) := by
      have := hT i hi
      rw [Nat.mul_zero, Nat.zero_add] at this
      rw [h4.I 42 i (by decide) (by simp)]
      exact this
    have hm := (mn_ok (T := T) i).1
    have hti := (ho i).1
    right
    show ∃ a' : Int32 × Mem, B_St_find_l62 N a4 (L_St_find_l62 N a4 z) (nI i) s = L_St_find_l62 N a4 z a'.1 a'.2 ∧ _
    unfold B_St_find_l62
    rw [if_neg (show ¬ ((144 : Int32) ≤ nI i) from nI_ge (b := 144) hi (by decide)), grd_t (inb_j (show i < 1728 by omega) (by decide)), grd_t (inb_j (show i < 1728 by omega) (by decide)), nI_clamp (by omega), h2, hT', mn_succ]
    simp only [letv, nI_1]
    by_cases c : T i < (mn T i).1
    · rw [if_neg (nI_ge c (by omega)), if_pos c]
      refine ⟨(nI (i + 1), sI (sI s 41 3 (nI (T i))) 43 0 (nI i)), rfl, rfl, ?_, fun _ => ?_, (h4.fI (σ2 := sI s 41 3 (nI (T i))) rfl (by decide)).aI rfl (by decide)⟩
      · show mI (sI (sI s 41 3 (nI (T i))) 43 0 (nI i)) 41 3 = _
        rw [sI_n _ _ (by decide), sI_s]
      · show mI (sI (sI s 41 3 (nI (T i))) 43 0 (nI i)) 43 0 = _
        rw [sI_s]
    · rw [if_pos (nI_le (by omega) (by omega)), if_neg c]
      exact ⟨(_, _), rfl, rfl, h2, h3, h4⟩
  · rintro z ⟨x, s⟩ ⟨h1, h2, h3, h4⟩
    have hx : x = nI 144 := h1
    subst hx
    refine ⟨s, ?_, h2, h3, h4⟩
    show B_St_find_l62 N a4 _ (nI 144) s = _
    unfold B_St_find_l62
    rw [if_pos (by decide)]
/-- the row of squares -/
def ptS (R : Nat → Nat → Nat) : Nat → Nat
  | 0 => (mn (R 0) 144).2
  | k + 1 => (bA (R (k + 1)) (ptS R k) 4).1
theorem st_path {σ : Mem} {R : Nat → Nat → Nat} {n C : Nat} (hN : 1000 < N) (hn : n ≤ 12) (hn1 : 1 ≤ n) (hT : ∀ r, r < n → rwC σ r (R r)) (ho : ∀ r, r < n → TOk2 (R r) (n - 1 - r)) (e3 : mI σ 41 3 = nI C) (hC : C < 268435456) (h0 : mI σ 43 0 = nI (ptS R 0)) (hp0 : ptS R 0 < 144) : ∃ σ', L_St_find_l112 N (nI n) N 1 σ = some σ' ∧ ((∀ j, j < n → mI σ' 43 j = nI (ptS R j)) ∧ Fr [43] [] σ σ') := by
  have hpt : ∀ j, ptS R j < 144 := by
    intro j
    induction j with
    | zero => exact hp0
    | succ j ih => exact (bA_ok (R (j + 1)) ih 4).1
  obtain ⟨s, p, v, F⟩ := loopR (L := fun z (x : Int32 × Mem) => L_St_find_l112 N (nI n) z x.1 x.2) (P := fun i x => x.1 = nI (i + 1) ∧ (∀ j, j < i + 1 → mI x.2 43 j = nI (ptS R j)) ∧ Fr [43] [] σ x.2) (Q := fun s => (∀ j, j < n - 1 + 1 → mI s 43 j = nI (ptS R j)) ∧ Fr [43] [] σ s) (a := (1, σ)) (K := N) (n - 1) (by
    rintro z i ⟨x, s⟩ hi ⟨h1, h2, h3⟩
    have hx : x = nI (i + 1) := h1
    subst hx
    change ∀ j, j < i + 1 → mI s 43 j = _ at h2
    change Fr _ _ σ s at h3
    refine Or.inr ⟨(nI (i + 1 + 1), sI s 43 (i + 1) (nI (ptS R (i + 1)))), ?_, rfl, fun j hj => ?_, h3.aI rfl (by decide)⟩
    · show B_St_find_l112 N (nI n) (L_St_find_l112 N (nI n) z) (nI (i + 1)) s = _
      unfold B_St_find_l112
      have hT' : rwC s (i + 1) (R (i + 1)) := fun q hq => by rw [h3.I 42 _ (by decide) (by simp)]; exact hT (i + 1) (by omega) q hq
      rw [if_neg (nI_ge (by omega) (by omega)), h3.I 41 3 (by decide) (by simp), e3, if_neg (show ¬ (268435456 : Int32) ≤ nI C from nI_ge (b := 268435456) hC (by decide)), nI_pred, grd_t (inb_j (by omega) (by decide)), nI_clamp (by omega), h2 i (by omega), st_bestAfter (by omega) (by omega) hT' (ho (i + 1) (by omega)) (hpt i)]
      simp only [bnd1_s, letv, nI_1]
      rw [grd_t (inb_j (by omega) (by decide)), nI_clamp (by omega)]
      rfl
    · show mI (sI s 43 (i + 1) _) 43 j = _
      rw [rdI]
      by_cases e : j = i + 1
      · rw [if_pos ⟨rfl, e⟩, e]
      · rw [if_neg (fun z => e z.2)]
        exact h2 j (by omega)) (by
    rintro z ⟨x, s⟩ ⟨h1, h2, h3⟩
    have hx : x = nI (n - 1 + 1) := h1
    subst hx
    refine ⟨s, ?_, h2, h3⟩
    show B_St_find_l112 N (nI n) _ (nI (n - 1 + 1)) s = _
    unfold B_St_find_l112
    rw [if_pos (nI_le (by omega) (by omega))]) (by omega) ⟨rfl, fun j hj => by rw [show j = 0 by omega]; exact h0, Fr.rf _ _ _⟩
  exact ⟨s, p, fun j hj => v j (by omega), F⟩
theorem st_find {σ : Mem} {f n : Nat} (hN : 1000 < N) (hI : Inv N σ) (hR : Rdy σ) (hL : DayL N σ W) (hn : n ≤ 12) (hn1 : 1 ≤ n) (hf : f + n ≤ 24) : ∃ σ', f_St_find N σ (nI f) (nI (f + n)) = some (if 268435456 ≤ (mn (sT W σ (f + n - 1) (n - 1)) 144).1 then 0 else 1, σ') ∧ mI σ' 41 3 = nI (mn (sT W σ (f + n - 1) (n - 1)) 144).1 ∧ mI σ' 41 2 = nI f ∧ ((mn (sT W σ (f + n - 1) (n - 1)) 144).1 < 268435456 → ∀ j, j < n → mI σ' 43 j = nI (ptS (fun r => sT W σ (f + n - 1) (n - 1 - r)) j)) ∧ Fr [8, 9, 42, 43] [(41, 2), (41, 3)] σ σ' := by
  have F0 : Fr [8, 9, 42, 43] [(41, 2), (41, 3)] σ (sI (sI σ 41 2 (nI f)) 41 3 268435456) := ((Fr.rf _ _ σ).fI (σ2 := sI σ 41 2 (nI f)) rfl (by decide)).fI rfl (by decide)
  have e412 : mI (sI (sI σ 41 2 (nI f)) 41 3 268435456) 41 2 = nI f := (sI_n _ _ (by decide)).trans (sI_s _ _ _ _)
  obtain ⟨s1, p1, v1, F1⟩ := st_rows (N := N) (W := W) hN hI hR hL hn hn1 hf F0 e412
  have ho : ∀ r, r < n → TOk2 (sT W σ (f + n - 1) (n - 1 - r)) (n - 1 - r) := fun r _ => sT_ok W σ _ _ (by omega)
  have v10 := v1 0 (by omega)
  rw [Nat.sub_zero] at v10
  have ho0 := ho 0 (by omega)
  rw [Nat.sub_zero] at ho0
  obtain ⟨s2, p2, v2, w2, F2⟩ := st_first (N := N) (σ := s1) hN v10 ho0 ((F1.I 41 3 (by decide) (by simp)).trans (sI_s _ _ _ _)) (nI n)
  have F02 : Fr [8, 9, 42, 43] [(41, 2), (41, 3)] σ s2 := (F0.c F1 (by decide) (by simp)).c F2 (by decide) (by decide)
  obtain ⟨hm1, hm2, hm3⟩ := mn_ok (T := sT W σ (f + n - 1) (n - 1)) 144
  have e12 : mI s2 41 2 = nI f := (F2.I 41 2 (by decide) (by decide)).trans ((F1.I 41 2 (by decide) (by simp)).trans e412)
  have hr : f_JM_min_7cf53 12 (nI (f + n) - nI f) = some (nI n) := by
    rw [jm_min, pk_sub (by omega), show f + n - f = n by omega, show minI 12 (nI n) = nI (min 12 n) from minI_n (a := 12) (by decide) (by omega), Nat.min_eq_right hn]
  have hbeg : f_St_find N σ (nI f) (nI (f + n)) = bnd1 (L_St_find_l112 N (nI n) N 1 s2) fun σ112_ => if 268435456 ≤ (mI σ112_ 41 3) then (some (0, σ112_)) else (some (1, σ112_)) := by
    unfold f_St_find
    simp only [letv]
    rw [hr]
    simp only [bnd1_s]
    rw [p1]
    simp only [bnd1_s]
    rw [p2]
    rfl
  by_cases c : (mn (sT W σ (f + n - 1) (n - 1)) 144).1 < 268435456
  · obtain ⟨g1, g2, g3⟩ := hm3 c
    have hp0 : ptS (fun r => sT W σ (f + n - 1) (n - 1 - r)) 0 = (mn (sT W σ (f + n - 1) (n - 1)) 144).2 := by
      show (mn (sT W σ (f + n - 1) (n - 1 - 0)) 144).2 = _
      rw [Nat.sub_zero]
    obtain ⟨s3, p3, v3, F3⟩ := st_path (N := N) (σ := s2) (R := fun r => sT W σ (f + n - 1) (n - 1 - r)) (n := n) hN hn hn1 (fun r hr q hq => by rw [F2.I 42 _ (by decide) (by simp)]; exact v1 r hr q hq) ho v2 c (by rw [hp0]; exact w2 c) (by rw [hp0]; exact g1)
    refine ⟨s3, ?_, (F3.I 41 3 (by decide) (by simp)).trans v2, (F3.I 41 2 (by decide) (by simp)).trans e12, fun _ => v3, F02.c F3 (by decide) (by simp)⟩
    rw [hbeg, p3]
    simp only [bnd1_s]
    rw [F3.I 41 3 (by decide) (by simp), v2, if_neg (show ¬ (268435456 : Int32) ≤ nI _ from nI_ge (b := 268435456) c (by decide)), if_neg (by omega)]
  · have ec : (mn (sT W σ (f + n - 1) (n - 1)) 144).1 = 268435456 := by omega
    refine ⟨s2, ?_, v2, e12, fun h => absurd h c, F02⟩
    have hstop : L_St_find_l112 N (nI n) N 1 s2 = some s2 := by
      obtain ⟨z, rfl⟩ : ∃ z, N = z + 1 := ⟨N - 1, by omega⟩
      show B_St_find_l112 _ _ _ _ _ = _
      unfold B_St_find_l112
      rw [v2, ec]
      by_cases q : nI n ≤ 1
      · rw [if_pos q]
      · rw [if_neg q, if_pos (by decide)]
    rw [hbeg, hstop]
    simp only [bnd1_s]
    rw [v2, ec, if_pos (by decide), if_pos (by decide)]
end StripC
