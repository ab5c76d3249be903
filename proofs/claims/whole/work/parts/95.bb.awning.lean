-- ===== the best awning =====
/-- the squares under an awning, one by one -/
def uS (sq dir : Nat) : Nat → Option Nat
  | 0 => some sq
  | i + 1 => match uS sq dir i with
    | none => none
    | some n => bsN n dir
theorem uS_succ (sq dir i : Nat) : uS sq dir (i + 1) = match uS sq dir i with
    | none => none
    | some n => bsN n dir := rfl
theorem uS_lt {sq dir : Nat} (hs : sq < 144) : ∀ i n, uS sq dir i = some n → n < 144 := by
  intro i
  induction i with
  | zero => intro n h; cases h; exact hs
  | succ i ih =>
    intro n h
    rw [uS_succ] at h
    cases hu : uS sq dir i with
    | none => rw [hu] at h; cases h
    | some m =>
      rw [hu] at h
      exact bsN_lt (ih m hu) h
def inU (sq dir len p : Nat) : Bool := (decide (0 < len) && uS sq dir 0 == some p) || (decide (1 < len) && uS sq dir 1 == some p) || (decide (2 < len) && uS sq dir 2 == some p)
theorem inU_iff {sq dir len p : Nat} (hl : len ≤ 3) : inU sq dir len p = true ↔ ∃ i, i < len ∧ uS sq dir i = some p := by
  unfold inU
  simp only [Bool.or_eq_true, Bool.and_eq_true, decide_eq_true_eq, beq_iff_eq]
  constructor
  · rintro ((⟨h1, h2⟩ | ⟨h1, h2⟩) | ⟨h1, h2⟩)
    · exact ⟨0, h1, h2⟩
    · exact ⟨1, h1, h2⟩
    · exact ⟨2, h1, h2⟩
  · rintro ⟨i, hi, h⟩
    rcases (show i = 0 ∨ i = 1 ∨ i = 2 by omega) with rfl | rfl | rfl
    · exact Or.inl (Or.inl ⟨hi, h⟩)
    · exact Or.inl (Or.inr ⟨hi, h⟩)
    · exact Or.inr ⟨hi, h⟩
/-- the squares are different ones -/
theorem uS_ne : ∀ sq : Fin 144, ∀ dir : Fin 4, (uS sq.val dir.val 1 ≠ uS sq.val dir.val 0) ∧ (uS sq.val dir.val 2 ≠ uS sq.val dir.val 0) ∧ (uS sq.val dir.val 2 = none ∨ uS sq.val dir.val 2 ≠ uS sq.val dir.val 1) := by decide +kernel
theorem uS_inj {sq dir : Nat} (hs : sq < 144) (hd : dir < 4) {i j n : Nat} (hi : i < 3) (hj : j < 3) (h1 : uS sq dir i = some n) (h2 : uS sq dir j = some n) : i = j := by
  obtain ⟨q1, q2, q3⟩ := uS_ne ⟨sq, hs⟩ ⟨dir, hd⟩
  simp only at q1 q2 q3
  rcases (show i = 0 ∨ i = 1 ∨ i = 2 by omega) with rfl | rfl | rfl <;> rcases (show j = 0 ∨ j = 1 ∨ j = 2 by omega) with rfl | rfl | rfl
  · rfl
  · exact absurd (h2.trans h1.symm) q1
  · exact absurd (h2.trans h1.symm) q2
  · exact absurd (h1.trans h2.symm) q1
  · rfl
  · rcases q3 with q3 | q3
    · rw [q3] at h2; cases h2
    · exact absurd (h2.trans h1.symm) q3
  · exact absurd (h1.trans h2.symm) q2
  · rcases q3 with q3 | q3
    · rw [q3] at h1; cases h1
    · exact absurd (h1.trans h2.symm) q3
  · rfl
/-- the reference's squares are these -/
theorem mo_under : ∀ sq : Fin 144, ∀ dir : Fin 4, ∀ k : Fin 3, f_Sh_inTown ((nI sq.val - nI sq.val / 12 * 12) + nI k.val * eastD (nI dir.val)) ((nI sq.val / 12) + nI k.val * northD (nI dir.val)) = some (if (uS sq.val dir.val k.val).isSome then 1 else 0) ∧ ((uS sq.val dir.val k.val).isSome = true → 12 * ((nI sq.val / 12) + nI k.val * northD (nI dir.val)) + ((nI sq.val - nI sq.val / 12 * 12) + nI k.val * eastD (nI dir.val)) = bsI (uS sq.val dir.val k.val)) := by decide +kernel
theorem mo_across (d : Int32) : f_Mo_acrossOf d = some (eastD d) := by
  unfold f_Mo_acrossOf eastD
  by_cases c1 : d = 1
  · rw [if_pos c1, if_pos c1]
  · rw [if_neg c1, if_neg c1]
    by_cases c3 : d = 3
    · rw [if_pos c3, if_pos c3]
    · rw [if_neg c3, if_neg c3]
theorem mo_upOf (d : Int32) : f_Mo_upOf d = some (northD d) := by
  unfold f_Mo_upOf northD
  by_cases c1 : d = 0
  · rw [if_pos c1, if_pos c1]
  · rw [if_neg c1, if_neg c1]
    by_cases c3 : d = 2
    · rw [if_pos c3, if_pos c3]
    · rw [if_neg c3, if_neg c3]
theorem uS_none {sq dir i j : Nat} (h : uS sq dir i = none) : uS sq dir (i + j) = none := by
  induction j with
  | zero => exact h
  | succ j ih => rw [← Nat.add_assoc, uS_succ, ih]
/-- how many of the first i are in the town -/
def uM (sq dir : Nat) : Nat → Nat
  | 0 => 0
  | i + 1 => if (uS sq dir i).isSome then i + 1 else uM sq dir i
theorem uM_ok (sq dir : Nat) : ∀ i, uM sq dir i ≤ i ∧ (∀ j, j < uM sq dir i → (uS sq dir j).isSome = true) ∧ (∀ j, uM sq dir i ≤ j → j < i → uS sq dir j = none) ∧ ((uS sq dir i).isSome = true → uM sq dir i = i) := by
  intro i
  induction i with
  | zero => exact ⟨Nat.le_refl _, fun j hj => absurd hj (Nat.not_lt_zero j), fun j _ hj => absurd hj (Nat.not_lt_zero j), fun _ => rfl⟩
  | succ i ih =>
    obtain ⟨h1, h2, h3, h4⟩ := ih
    unfold uM
    by_cases c : (uS sq dir i).isSome = true
    · rw [if_pos c]
      have h5 := h4 c
      refine ⟨Nat.le_refl _, fun j hj => ?_, fun j hj1 hj2 => by omega, fun _ => rfl⟩
      rcases (show j < i ∨ j = i by omega) with q | rfl
      · exact h2 j (by omega)
      · exact c
    · rw [if_neg c]
      have c' : uS sq dir i = none := by
        cases hu : uS sq dir i with
        | none => rfl
        | some n => rw [hu] at c; exact absurd rfl c
      refine ⟨by omega, h2, fun j hj1 hj2 => ?_, fun h => ?_⟩
      · rcases (show j < i ∨ j = i by omega) with q | rfl
        · exact h3 j hj1 q
        · exact c'
      · rw [uS_none (j := 1) c'] at h
        exact absurd h (by decide)
theorem mo_laysBesides {N : Nat} {σ : Mem} {sq dir len : Nat} (hN : 100 < N) (hs : sq < 144) (hd : dir < 4) (hl : len ≤ 3) : ∃ σ', f_Mo_laysBesides N σ (nI sq) (nI len) (nI dir) = some σ' ∧ (mI σ' 65 62 = nI (uM sq dir len) ∧ (∀ j, j < uM sq dir len → mI σ' 104 j = bsI (uS sq dir j))) := by
  unfold f_Mo_laysBesides
  simp only [letv]
  refine loopR (L := fun z (x : Int32 × Mem) => L_Mo_laysBesides_l8 N (nI sq) (nI len) (nI dir) z x.1 x.2) (P := fun i x => x.1 = nI i ∧ mI x.2 65 62 = nI (uM sq dir i) ∧ (∀ j, j < uM sq dir i → mI x.2 104 j = bsI (uS sq dir j))) (a := (0, sI σ 65 62 0)) len ?_ ?_ (by omega) ⟨rfl, sI_s _ _ _ _, fun j hj => absurd hj (Nat.not_lt_zero j)⟩
  · rintro z i ⟨x, s⟩ hi ⟨h1, h2, h3⟩
    have hx : x = nI i := h1
    subst hx
    change mI s 65 62 = _ at h2
    change ∀ j, _ → mI s 104 j = _ at h3
    obtain ⟨u1, u2⟩ := mo_under ⟨sq, hs⟩ ⟨dir, hd⟩ ⟨i, by omega⟩
    simp only at u1 u2
    obtain ⟨m1, m2, m3, m4⟩ := uM_ok sq dir i
    right
    show ∃ a' : Int32 × Mem, B_Mo_laysBesides_l8 N (nI sq) (nI len) (nI dir) (L_Mo_laysBesides_l8 N (nI sq) (nI len) (nI dir) z) (nI i) s = L_Mo_laysBesides_l8 N (nI sq) (nI len) (nI dir) z a'.1 a'.2 ∧ _
    unfold B_Mo_laysBesides_l8
    rw [if_neg (nI_ge hi (by omega)), mo_across, mo_upOf]
    simp only [bnd1_s, letv, nI_1]
    rw [mo_isIn, u1]
    simp only [bnd1_s]
    have hst : uM sq dir (i + 1) = if (uS sq dir i).isSome then i + 1 else uM sq dir i := rfl
    rw [hst]
    by_cases c : (uS sq dir i).isSome = true
    · rw [if_pos c, if_neg ne10, if_pos c, u2 c, h2, m4 c, grd_t (inb_j (by omega) (by decide)), nI_clamp (by omega)]
      refine ⟨(nI (i + 1), sI (sI s 104 i (bsI (uS sq dir i))) 65 62 (nI (i + 1))), ?_, rfl, sI_s _ _ _ _, fun j hj => ?_⟩
      · simp only [bnd1_s]
        rw [sI_n _ _ (by omega), h2, m4 c, nI_1]
      · show mI (sI (sI s 104 i (bsI (uS sq dir i))) 65 62 (nI (i + 1))) 104 j = _
        rw [sI_n _ _ (by omega), rdI]
        by_cases e : j = i
        · rw [if_pos ⟨rfl, e⟩, e]
        · rw [if_neg (fun z => e z.2)]
          have := m4 c
          exact h3 j (by omega)
    · rw [if_neg c, if_pos rfl, if_neg c]
      exact ⟨(nI (i + 1), s), rfl, rfl, h2, h3⟩
  · rintro z ⟨x, s⟩ ⟨h1, h2, h3⟩
    have hx : x = nI len := h1
    subst hx
    refine ⟨s, ?_, h2, h3⟩
    show B_Mo_laysBesides_l8 N (nI sq) (nI len) (nI dir) _ (nI len) s = _
    unfold B_Mo_laysBesides_l8
    rw [if_pos (nI_le (Nat.le_refl _) (by omega))]
theorem mo_isBesides {N : Nat} {σ : Mem} {sq dir len p : Nat} (hN : 100 < N) (hs : sq < 144) (hl : len ≤ 3) (hp : p < 144) (e : mI σ 65 62 = nI (uM sq dir len)) (h : ∀ j, j < uM sq dir len → mI σ 104 j = bsI (uS sq dir j)) : f_Mo_isBesides N σ (nI p) = some (if inU sq dir len p then 1 else 0) := by
  obtain ⟨m1, m2, m3, -⟩ := uM_ok sq dir len
  unfold f_Mo_isBesides
  obtain ⟨r, h1, h2⟩ := loopR (L := fun z (x : Int32) => L_Mo_isBesides_l2 N (nI p) σ z x) (P := fun i x => x = nI i ∧ ∀ j, j < i → uS sq dir j ≠ some p) (Q := fun r => r = if inU sq dir len p then 1 else 0) (a := 0) (K := N) (uM sq dir len) (by
    rintro z i x hi ⟨rfl, h2⟩
    have hsome := m2 i hi
    cases hu : uS sq dir i with
    | none => rw [hu] at hsome; exact absurd hsome (by decide)
    | some n =>
      have hn := uS_lt hs i n hu
      have hB : ∀ rec : Int32 → Option Int32, B_Mo_isBesides_l2 N (nI p) σ rec (nI i) = if n = p then some 1 else rec (nI (i + 1)) := fun rec => by
        unfold B_Mo_isBesides_l2
        rw [e, if_neg (nI_ge hi (by omega)), grd_t (inb_j (by omega) (by decide)), nI_clamp (by omega), h i hi, hu]
        have en : (bsI (some n) = nI p) ↔ n = p := nI_eq (by omega) (by omega)
        by_cases c : n = p
        · rw [if_pos (en.mpr c), if_pos c]
        · rw [if_neg (fun z => c (en.mp z)), if_neg c]
          simp only [letv, nI_1]
      by_cases c : n = p
      · refine Or.inl ⟨1, (hB _).trans (if_pos c), ?_⟩
        rw [(inU_iff hl).mpr ⟨i, by omega, by rw [hu, c]⟩]
        rfl
      · refine Or.inr ⟨nI (i + 1), (hB _).trans (if_neg c), rfl, fun j hj => ?_⟩
        rcases (show j < i ∨ j = i by omega) with q | rfl
        · exact h2 j q
        · rw [hu]; exact fun z => c (Option.some.inj z)) (by
    rintro z x ⟨rfl, h2⟩
    refine ⟨0, ?_, ?_⟩
    · show B_Mo_isBesides_l2 N (nI p) σ _ (nI (uM sq dir len)) = _
      unfold B_Mo_isBesides_l2
      rw [e, if_pos (nI_le (Nat.le_refl _) (by omega))]
    · have : inU sq dir len p = false := by
        cases hq : inU sq dir len p with
        | false => rfl
        | true =>
          obtain ⟨i, hi, hu⟩ := (inU_iff hl).mp hq
          by_cases c : i < uM sq dir len
          · exact absurd hu (h2 i c)
          · rw [m3 i (by omega) hi] at hu; cases hu
      rw [this]
      rfl) (by omega) ⟨rfl, fun j hj => absurd hj (Nat.not_lt_zero j)⟩
  exact h1.trans (by rw [h2])
-- what an awning brings
/-- what a wish brings in an hour in which nobody casts, if somebody did -/
def gnT (σ : Mem) (k h : Nat) : Int32 := if (stands (mI σ 56 0) k && (decide ((mI σ 58 k).toNatClampNeg ≤ h) && (decide (h < (mI σ 59 k).toNatClampNeg) && (decide (mI σ 34 h ≠ 0) && decide (mI σ 39 (mI σ 57 k).toNatClampNeg = 0))))) = true ∧ who σ h (mI σ 57 k).toNatClampNeg = 0 then (if mI σ 60 k = 0 then mI σ 61 k else -(mI σ 61 k)) else 0
def gnW (σ : Mem) (k : Nat) : Int32 := sumI (gnT σ k) 24
def gnQ (σ : Mem) (n : Nat) : Int32 := sumI (fun k => if (mI σ 57 k).toNatClampNeg = n then gnW σ k else 0) 16
theorem gnT_k {σ σ' : Mem} (g : Keeps [34, 38, 39, 57, 58, 59, 60, 61] [(56, 0)] σ σ') (k h : Nat) : gnT σ' k h = gnT σ k h := by
  unfold gnT
  rw [g.f 56 0 (by decide), g.r 34 (by decide), g.r 39 (by decide), g.r 57 (by decide), g.r 58 (by decide), g.r 59 (by decide), g.r 60 (by decide), g.r 61 (by decide), who_k (g.r 38 (by decide)) (g.r 39 (by decide))]
theorem wi_findGains {N : Nat} {σ : Mem} (hN : 1000 < N) (hI : Inv N σ) (hR : Rdy σ) : ∃ σ', f_Wi_findGains N σ = some σ' ∧ ∀ n, n < 144 → mI σ' 62 n = gnQ σ n := by
  obtain ⟨s0, q0, v0⟩ := ja_fill (N := N) (σ := σ) (g := 62) (n := 144) 0 (by omega) (by decide)
  have F0 := fm_JA_fill_53178 q0
  have inner : ∀ (k : Nat) (s : Mem), k < 16 → Fr [62] [] σ s → ∃ s', L_Wi_findGains_l18 N (nI k) N 0 s = some s' ∧ ((∀ n, mI s' 62 n = mI s 62 n + if (mI σ 57 k).toNatClampNeg = n then gnW σ k else 0) ∧ Fr [62] [] σ s') := by
    intro k s hk F
    have hW := hI.2.2.2.2.1
    obtain ⟨p, f, t, w, s', hp, hf, ht, hw, hs', p1, p2, f1, f2, t1, t2, w1, w2, s1, s2⟩ := hW.2 k hk
    have g := inb_j hk (show 16 < 2 ^ 31 by decide)
    have hc : (nI k).toNatClampNeg = k := nI_clamp (by omega)
    refine loopR (L := fun z (x : Int32 × Mem) => L_Wi_findGains_l18 N (nI k) z x.1 x.2) (P := fun i x => x.1 = nI i ∧ (∀ n, mI x.2 62 n = mI s 62 n + if (mI σ 57 k).toNatClampNeg = n then sumI (gnT σ k) i else 0) ∧ Fr [62] [] σ x.2) (a := (0, s)) 24 ?_ ?_ (by omega) ⟨rfl, fun n => ?_, F⟩
    · rintro z i ⟨x, s''⟩ hi ⟨h1, h2, h3⟩
      have hx : x = nI i := h1
      subst hx
      change ∀ n, mI s'' 62 n = _ at h2
      change Fr _ _ σ s'' at h3
      have I' := hI.k (h3.keeps (by decide))
      have R' := hR.k (h3.keeps (by decide))
      have p1' : mI s'' 57 k = nI p := (h3.I 57 k (by decide) (by simp)).trans p1
      have f1' : mI s'' 58 k = nI f := (h3.I 58 k (by decide) (by simp)).trans f1
      have t1' : mI s'' 59 k = nI t := (h3.I 59 k (by decide) (by simp)).trans t1
      have hask := wi_isAsked I' R' hk hi hp hf ht p1' f1' t1'
      rw [h3.I 56 0 (by decide) (by simp), h3.I 34 i (by decide) (by simp), h3.I 39 p (by decide) (by simp)] at hask
      have hg : gnT σ k i = if (stands (mI σ 56 0) k && (decide (f ≤ i) && (decide (i < t) && (decide (mI σ 34 i ≠ 0) && decide (mI σ 39 p = 0))))) = true ∧ who σ i p = 0 then (if mI σ 60 k = 0 then mI σ 61 k else -(mI σ 61 k)) else 0 := by
        unfold gnT
        rw [p1, f1, t1, nI_clamp (by omega), nI_clamp (by omega), nI_clamp (by omega)]
      have hpc : (mI σ 57 k).toNatClampNeg = p := by rw [p1, nI_clamp (by omega)]
      right
      show ∃ a' : Int32 × Mem, B_Wi_findGains_l18 N (nI k) (L_Wi_findGains_l18 N (nI k) z) (nI i) s'' = L_Wi_findGains_l18 N (nI k) z a'.1 a'.2 ∧ _
      unfold B_Wi_findGains_l18
      rw [if_neg (show ¬ ((24 : Int32) ≤ nI i) from nI_ge (b := 24) hi (by decide)), hask]
      simp only [bnd1_s, letv, nI_1, grd_t g, hc, p1']
      rw [da_whoCasts hi hp, who_k (h3.rowI 38 (by decide) (by simp)) (h3.rowI 39 (by decide) (by simp)), h3.I 60 k (by decide) (by simp), h3.I 61 k (by decide) (by simp)]
      simp only [bnd1_s]
      generalize (stands (mI σ 56 0) k && (decide (f ≤ i) && (decide (i < t) && (decide (mI σ 34 i ≠ 0) && decide (mI σ 39 p = 0))))) = A at hg
      have hskip : gnT σ k i = 0 → ∀ n, mI s'' 62 n = mI s 62 n + if (mI σ 57 k).toNatClampNeg = n then sumI (gnT σ k) (i + 1) else 0 := fun h n => by
        rw [h2 n, sumI_succ _ i, h, Int32.add_zero]
      by_cases cA : A = true ∧ who σ i p = 0
      · rw [if_pos cA] at hg
        rw [if_pos cA.1, if_neg ne10, if_pos cA.2, grd_t (inb_j hp (by decide)), nI_clamp (by omega)]
        have ey : (if mI σ 60 k = 0 then some (mI σ 61 k) else some (-(mI σ 61 k))) = some (gnT σ k i) := by
          rw [hg]
          by_cases c0 : mI σ 60 k = 0
          · rw [if_pos c0, if_pos c0]
          · rw [if_neg c0, if_neg c0]
        rw [ey]
        simp only [bnd1_s]
        rw [grd_t (inb_j hp (by decide))]
        refine ⟨(nI (i + 1), sI s'' 62 p (mI s'' 62 p + gnT σ k i)), rfl, rfl, fun n => ?_, h3.aI rfl (by decide)⟩
        show mI (sI s'' 62 p (mI s'' 62 p + gnT σ k i)) 62 n = _
        rw [rdI, hpc, sumI_succ _ i]
        by_cases e : n = p
        · subst e
          rw [if_pos ⟨rfl, rfl⟩, h2, hpc, if_pos rfl, if_pos rfl, Int32.add_assoc]
        · rw [if_neg (fun z => e z.2), h2 n, hpc, if_neg (fun z => e z.symm), if_neg (fun z => e z.symm)]
      · rw [if_neg cA] at hg
        refine ⟨(nI (i + 1), s''), ?_, rfl, hskip hg, h3⟩
        by_cases c1 : A = true
        · rw [if_pos c1, if_neg ne10, if_neg (fun z => cA ⟨c1, z⟩)]
          rfl
        · rw [if_neg c1, if_pos rfl]
          rfl
    · rintro z ⟨x, s''⟩ ⟨h1, h2, h3⟩
      have hx : x = nI 24 := h1
      subst hx
      refine ⟨s'', ?_, h2, h3⟩
      show B_Wi_findGains_l18 N (nI k) _ (nI 24) s'' = _
      unfold B_Wi_findGains_l18
      rw [if_pos (by decide)]
    · show mI s 62 n = mI s 62 n + if (mI σ 57 k).toNatClampNeg = n then 0 else 0
      rw [ite_self, Int32.add_zero]
  obtain ⟨s, p, v, -⟩ := loopR (L := fun z (x : Int32 × Mem) => L_Wi_findGains_l10 N z x.1 x.2) (P := fun i x => x.1 = nI i ∧ (∀ n, n < 144 → mI x.2 62 n = sumI (fun k => if (mI σ 57 k).toNatClampNeg = n then gnW σ k else 0) i) ∧ Fr [62] [] σ x.2) (Q := fun s => (∀ n, n < 144 → mI s 62 n = gnQ σ n) ∧ Fr [62] [] σ s) (a := (0, s0)) (K := N) 16 (by
    rintro z i ⟨x, s⟩ hi ⟨h1, h2, h3⟩
    have hx : x = nI i := h1
    subst hx
    obtain ⟨s', p', v', F'⟩ := inner i s hi h3
    refine Or.inr ⟨(nI (i + 1), s'), ?_, rfl, fun n hn => ?_, F'⟩
    · show B_Wi_findGains_l10 N (L_Wi_findGains_l10 N z) (nI i) s = _
      unfold B_Wi_findGains_l10
      rw [if_neg (show ¬ ((16 : Int32) ≤ nI i) from nI_ge (b := 16) hi (by decide)), p']
      simp only [bnd1_s, letv, nI_1]
    · show mI s' 62 n = _
      rw [v' n, sumI_succ _ i]
      have := h2 n hn
      change mI s 62 n = _ at this
      rw [this]) (by
    rintro z ⟨x, s⟩ ⟨h1, h2, h3⟩
    have hx : x = nI 16 := h1
    subst hx
    refine ⟨s, ?_, h2, h3⟩
    show B_Wi_findGains_l10 N _ (nI 16) s = _
    unfold B_Wi_findGains_l10
    rw [if_pos (by decide)]) (by omega) ⟨rfl, fun n hn => by show mI s0 62 n = 0; rw [v0 n, if_pos hn], F0⟩
  refine ⟨s, ?_, v⟩
  unfold f_Wi_findGains
  rw [q0]
  exact p
/-- what an awning brings, by the class -/
def awG (σ : Mem) (sq dir i : Nat) : Int32 := match uS sq dir i with
  | none => 0
  | some n => mI σ 62 n
theorem wi_gain {N : Nat} {σ : Mem} {sq dir len : Nat} (hN : 100 < N) (hs : sq < 144) (hd : dir < 4) (hl : len ≤ 3) : f_Wi_gainOfAwning N σ (nI sq) (nI dir) (nI len) = some (sumI (awG σ sq dir) len) := by
  unfold f_Wi_gainOfAwning
  obtain ⟨r, h1, h2⟩ := loopR (L := fun z (x : Int32 × Int32 × Int32) => L_Wi_gainOfAwning_l9 N (nI dir) (nI len) σ z x.1 x.2.1 x.2.2) (P := fun i x => x.1 = sumI (awG σ sq dir) i ∧ x.2.1 = bsI (uS sq dir i) ∧ x.2.2 = nI i) (Q := fun r => r = sumI (awG σ sq dir) len) (a := (0, nI sq, 0)) (K := N) len (by
    rintro z i ⟨x, y, u⟩ hi ⟨h1, h2, h3⟩
    have hx : x = _ := h1
    have hy : y = _ := h2
    have hu : u = nI i := h3
    subst hx; subst hy; subst hu
    show (∃ r, B_Wi_gainOfAwning_l9 N (nI dir) (nI len) σ (L_Wi_gainOfAwning_l9 N (nI dir) (nI len) σ z) _ _ (nI i) = some r ∧ _) ∨ ∃ a' : Int32 × Int32 × Int32, B_Wi_gainOfAwning_l9 N (nI dir) (nI len) σ (L_Wi_gainOfAwning_l9 N (nI dir) (nI len) σ z) _ _ (nI i) = L_Wi_gainOfAwning_l9 N (nI dir) (nI len) σ z a'.1 a'.2.1 a'.2.2 ∧ _
    unfold B_Wi_gainOfAwning_l9
    rw [if_neg (nI_ge hi (by omega))]
    cases hun : uS sq dir i with
    | none =>
      left
      rw [if_pos (show bsI none < 0 by decide)]
      refine ⟨_, rfl, ?_⟩
      have := sumI_ext (f := awG σ sq dir) (m := i) (len - i) (fun j hj1 hj2 => by
        unfold awG
        have : uS sq dir j = none := by
          have := uS_none (j := j - i) hun
          rw [show i + (j - i) = j by omega] at this
          exact this
        rw [this])
      rw [show i + (len - i) = len by omega] at this
      exact this.symm
    | some n =>
      have hn := uS_lt hs i n hun
      right
      show ∃ a' : Int32 × Int32 × Int32, (if nI n < 0 then _ else _) = _ ∧ _
      rw [if_neg (nI_pos (by omega))]
      show ∃ a' : Int32 × Int32 × Int32, (if (144 : Int32) ≤ nI n then _ else grd (inb (nI n) 144) (letv (sumI (awG σ sq dir) i + mI σ 62 (nI n).toNatClampNeg) fun v38 => bnd1 (f_Sh_beside (nI n) (nI dir)) fun r43 => letv (nI i + 1) fun v48 => L_Wi_gainOfAwning_l9 N (nI dir) (nI len) σ z v38 r43 v48)) = _ ∧ _
      rw [if_neg (show ¬ ((144 : Int32) ≤ nI n) from nI_ge (b := 144) hn (by decide)), grd_t (inb_j hn (by decide)), nI_clamp (by omega)]
      simp only [letv]
      rw [sh_beside hn hd, nI_1]
      refine ⟨(_, _, _), rfl, ?_, ?_, rfl⟩
      · rw [sumI_succ _ i]
        unfold awG
        rw [hun]
      · show bsI (bsN n dir) = bsI (uS sq dir (i + 1))
        rw [uS_succ, hun]) (by
    rintro z ⟨x, y, u⟩ ⟨h1, h2, h3⟩
    have hu : u = nI len := h3
    subst hu
    refine ⟨x, ?_, h1⟩
    show B_Wi_gainOfAwning_l9 N (nI dir) (nI len) σ _ x y (nI len) = _
    unfold B_Wi_gainOfAwning_l9
    rw [if_pos (nI_le (Nat.le_refl _) (by omega))]) (by omega) ⟨rfl, rfl, rfl⟩
  rw [show L_Wi_gainOfAwning_l9 N (nI dir) (nI len) σ N 0 (nI sq) 0 = some r from h1, h2]
  rfl
