-- ===== wishes: hours that are kept, happy =====
theorem cntB_zero {f : Nat → Bool} : ∀ m, (∀ i, i < m → f i = false) → cntB f m = 0 := by
  intro m
  induction m with
  | zero => intro _; rfl
  | succ m ih =>
    intro h
    rw [cntB_succ, ih (fun i hi => h i (by omega)), h m (by omega)]
    rfl
theorem cntB_ext {f : Nat → Bool} {m : Nat} : ∀ d, (∀ i, m ≤ i → i < m + d → f i = false) → cntB f (m + d) = cntB f m := by
  intro d
  induction d with
  | zero => intro _; rfl
  | succ d ih =>
    intro h
    rw [← Nat.add_assoc, cntB_succ, ih (fun i h1 h2 => h i h1 (by omega)), h (m + d) (by omega) (by omega)]
    rfl
/-- a day: whether the sun is up, houses, who casts -/
abbrev DX : Type := (Nat → Int32) × (Nat → Int32) × (Nat → Nat → Int32)
def dC (σ : Mem) : DX := (mI σ 34, mI σ 39, who σ)
/-- the reference's cells hold a day -/
def DayG (σ : Mem) (D : DX) : Prop := (∀ h, h < 24 → mI σ 87 h = D.1 h) ∧ (∀ sq, sq < 144 → mI σ 88 sq = if D.2.1 sq = 0 then 1 else 0) ∧ ∀ h, h < 24 → ∀ sq, sq < 144 → mI σ 86 (144 * h + sq) = D.2.2 h sq
theorem DayEq.g {σ : Mem} (h : DayEq σ) : DayG σ (dC σ) := h
theorem dC_k {σ σ' : Mem} (g : Keeps [34, 38, 39] [] σ σ') : dC σ' = dC σ := by
  unfold dC
  rw [g.r 34 (by decide), g.r 39 (by decide), show who σ' = who σ from funext fun h => funext fun sq => who_k (g.r 38 (by decide)) (g.r 39 (by decide)) h sq]
theorem mo_whoG {σ : Mem} {D : DX} (hD : DayG σ D) {h sq : Nat} (hh : h < 24) (hs : sq < 144) : f_Mo_whoOn σ (nI h) (nI sq) = some (D.2.2 h sq) := by
  unfold f_Mo_whoOn
  rw [ixM, grd_t (inb_j (by omega) (by decide)), nI_clamp (by omega), hD.2.2 h hh sq hs]
/-- an hour of a wish is kept; b: somebody casts on its square besides -/
def kpt (D : DX) (b : Bool) (p f t s h : Nat) : Bool := decide (f ≤ h) && (decide (h < t) && (decide (D.1 h ≠ 0) && (decide (D.2.1 p = 0) && ((decide (D.2.2 h p ≠ 0) || b) != decide (s = 1)))))
def kpM (σ : Mem) (D : DX) (b : Bool) (k : Nat) : Nat → Bool := kpt D b (mI σ 57 k).toNatClampNeg (mI σ 58 k).toNatClampNeg (mI σ 59 k).toNatClampNeg (mI σ 60 k).toNatClampNeg
def kcn (σ : Mem) (D : DX) (b : Bool) (k : Nat) : Nat := cntB (kpM σ D b k) 24
def hap (σ : Mem) (D : DX) (b : Nat → Bool) (sun : Int32) : Int32 := sumI (fun k => if (stands (mI σ 56 0) k && decide (mI σ 60 k = sun)) = true then mI σ 61 k * nI (kcn σ D (b k) k) else 0) 16
theorem kpM_k {σ σ' : Mem} (g : Keeps [57, 58, 59, 60] [] σ σ') (D : DX) (b : Bool) (k : Nat) : kpM σ' D b k = kpM σ D b k := by
  unfold kpM
  rw [g.r 57 (by decide), g.r 58 (by decide), g.r 59 (by decide), g.r 60 (by decide)]
theorem kcn_k {σ σ' : Mem} (g : Keeps [57, 58, 59, 60] [] σ σ') (D : DX) (b : Bool) (k : Nat) : kcn σ' D b k = kcn σ D b k := by
  unfold kcn
  rw [kpM_k g]
theorem hap_k {σ σ' : Mem} (g : Keeps [57, 58, 59, 60, 61] [(56, 0)] σ σ') (D : DX) (b : Nat → Bool) (s : Int32) : hap σ' D b s = hap σ D b s := by
  unfold hap
  rw [g.f 56 0 (by decide), g.r 60 (by decide), g.r 61 (by decide)]
  refine sumI_congr 16 (fun k _ => ?_)
  rw [kcn_k (g.sub (by decide) (by decide))]
theorem wish_eq {N : Nat} {σ : Mem} (hI : Inv N σ) (a : Int32) : (f_Wi_isTold σ a = some 0 ∧ f_Mo_isWish σ a = some 0) ∨ (f_Wi_isTold σ a = some 1 ∧ f_Mo_isWish σ a = some 1 ∧ ∃ i : Nat, i < 16 ∧ a = nI i ∧ stands (mI σ 56 0) i = true) := by
  obtain ⟨⟨t, ht, e1, e2⟩, -⟩ := hI.2.2.2.2.1
  unfold f_Wi_isTold f_Mo_isWish f_Wi_isNumber
  rcases pk_ix a (n := 16) (by decide) with q | q | ⟨i, hi, rfl⟩
  · left
    rw [if_pos q, if_pos q]
    exact ⟨rfl, rfl⟩
  · left
    by_cases q0 : a < 0
    · rw [if_pos q0, if_pos q0]; exact ⟨rfl, rfl⟩
    · rw [if_neg q0, if_neg q0, if_pos (show (16 : Int32) ≤ a from q), if_pos (show (16 : Int32) ≤ a from q)]
      exact ⟨rfl, rfl⟩
  · rw [if_neg (nI_pos (by omega)), if_neg (nI_pos (by omega)), if_neg (show ¬ ((16 : Int32) ≤ nI i) from nI_ge (b := 16) hi (by decide)), if_neg (show ¬ ((16 : Int32) ≤ nI i) from nI_ge (b := 16) hi (by decide)), mo_has, e2, e1]
    simp only [bnd1_s, if_neg ne10]
    by_cases c : (nI t >>> (nI i &&& 31)) &&& 1 = 1
    · have : stands (nI t) i = true := by simp [stands, c]
      right
      rw [if_pos c, this]
      exact ⟨rfl, rfl, i, hi, rfl, this⟩
    · have : stands (nI t) i = false := by simp [stands, c]
      left
      rw [if_neg c, this]
      exact ⟨rfl, rfl⟩
theorem wi_told {σ : Mem} {k : Nat} (hk : k < 16) : f_Wi_isTold σ (nI k) = some (if stands (mI σ 56 0) k = true then 1 else 0) := by
  unfold f_Wi_isTold f_Wi_isNumber stands
  rw [if_neg (nI_pos (by omega)), if_neg (show ¬ ((16 : Int32) ≤ nI k) from nI_ge (b := 16) hk (by decide))]
  simp only [bnd1_s, if_neg ne10, decide_eq_true_eq]
  by_cases c : (mI σ 56 0 >>> (nI k &&& 31)) &&& 1 = 1
  · rw [if_pos c, if_pos c]
  · rw [if_neg c, if_neg c]
theorem mo_wish {σ : Mem} (hW : IWish σ) {k : Nat} (hk : k < 16) : f_Mo_isWish σ (nI k) = some (if stands (mI σ 56 0) k = true then 1 else 0) := by
  obtain ⟨⟨t, ht, e1, e2⟩, -⟩ := hW
  unfold f_Mo_isWish
  rw [if_neg (nI_pos (by omega)), if_neg (show ¬ ((16 : Int32) ≤ nI k) from nI_ge (b := 16) hk (by decide)), mo_has, e2, e1]
  simp only [bnd1_s]
  by_cases c : stands (nI t) k = true
  · rw [if_pos c, if_neg ne10]
  · rw [if_neg c, if_pos rfl]
/-- is an hour asked for -/
theorem wi_isAsked {N : Nat} {σ : Mem} (hI : Inv N σ) (hR : Rdy σ) {k h p f t : Nat} (hk : k < 16) (hh : h < 24) (hp : p < 144) (hf : f ≤ 24) (ht : t ≤ 24) (ep : mI σ 57 k = nI p) (ef : mI σ 58 k = nI f) (et : mI σ 59 k = nI t) : f_Wi_isAsked σ (nI k) (nI h) = some (if (stands (mI σ 56 0) k && (decide (f ≤ h) && (decide (h < t) && (decide (mI σ 34 h ≠ 0) && decide (mI σ 39 p = 0))))) = true then 1 else 0) := by
  unfold f_Wi_isAsked
  have g : inb (nI k) 16 = true := inb_j hk (by decide)
  have hc : (nI k).toNatClampNeg = k := nI_clamp (by omega)
  rw [wi_told hk]
  simp only [bnd1_s, grd_t g, hc, ep, ef, et]
  rw [da_isUp hI hR hh, da_isFree hp]
  simp only [bnd1_s]
  by_cases c0 : stands (mI σ 56 0) k = true
  · rw [if_pos c0, if_neg ne10, c0]
    by_cases c1 : f ≤ h
    · rw [if_neg (nI_nlt c1 (by omega))]
      by_cases c2 : h < t
      · rw [if_neg (nI_ge c2 (by omega))]
        by_cases c3 : mI σ 34 h = 0
        · rw [if_pos c3]; simp [c3]
        · rw [if_neg c3]
          by_cases c4 : mI σ 39 p = 0
          · rw [if_pos c4, if_neg ne10]; simp [c1, c2, c3, c4]
          · rw [if_neg c4, if_pos rfl]; simp [c4]
      · rw [if_pos (nI_le (by omega) (by omega))]; simp [c2]
    · rw [if_pos (nI_lt (by omega) (by omega))]; simp [c1]
  · have c0' : stands (mI σ 56 0) k = false := by simpa using c0
    rw [if_neg c0, if_pos rfl, c0']
    rfl
theorem nI_one : nI 1 = 1 := rfl
theorem s01 {s : Nat} (hs : s < 2) (x : Bool) : (nI s = if x = true then (1 : Int32) else 0) ↔ (x == decide (s = 1)) = true := by
  rcases (show s = 0 ∨ s = 1 by omega) with rfl | rfl <;> cases x <;> decide
theorem wi_hoursKept {N : Nat} {σ : Mem} (hN : 1000 < N) (hI : Inv N σ) (hR : Rdy σ) {k : Nat} (hk : k < 16) (hst : stands (mI σ 56 0) k = true) : f_Wi_hoursKept N σ (nI k) = some (nI (kcn σ (dC σ) false k)) := by
  obtain ⟨p, f, t, w, s, hp, hf, ht, hw, hs, p1, p2, f1, f2, t1, t2, w1, w2, s1, s2⟩ := hI.2.2.2.2.1.2 k hk
  have eM : kpM σ (dC σ) false k = kpt (dC σ) false p f t s := by
    unfold kpM
    rw [p1, f1, t1, s1, nI_clamp (by omega), nI_clamp (by omega), nI_clamp (by omega), nI_clamp (by omega)]
  unfold f_Wi_hoursKept kcn
  rw [eM]
  have g : inb (nI k) 16 = true := inb_j hk (by decide)
  have hc : (nI k).toNatClampNeg = k := nI_clamp (by omega)
  refine loopS (L := fun z (a : Int32 × Int32) => L_Wi_hoursKept_l5 N (nI k) σ z a.1 a.2) (fun i => (nI (cntB (kpt (dC σ) false p f t s) i), nI i)) _ 24 (fun z i hi => ?_) (fun z => ?_) (by omega)
  · show B_Wi_hoursKept_l5 N (nI k) σ (L_Wi_hoursKept_l5 N (nI k) σ z) (nI (cntB (kpt (dC σ) false p f t s) i)) (nI i) = L_Wi_hoursKept_l5 N (nI k) σ z (nI (cntB (kpt (dC σ) false p f t s) (i + 1))) (nI (i + 1))
    unfold B_Wi_hoursKept_l5
    rw [if_neg (show ¬ ((24 : Int32) ≤ nI i) from nI_ge (b := 24) hi (by decide)), wi_isAsked hI hR hk hi hp hf ht p1 f1 t1, hst]
    simp only [bnd1_s, letv, grd_t g, hc, p1, s1]
    rw [da_whoCasts hi hp, cntB_succ]
    simp only [bnd1_s, nI_1]
    have hk1 : kpt (dC σ) false p f t s i = ((decide (f ≤ i) && (decide (i < t) && (decide (mI σ 34 i ≠ 0) && decide (mI σ 39 p = 0)))) && (decide (who σ i p ≠ 0) != decide (s = 1))) := by
      unfold kpt dC
      simp [Bool.and_assoc]
    rw [hk1]
    generalize (decide (f ≤ i) && (decide (i < t) && (decide (mI σ 34 i ≠ 0) && decide (mI σ 39 p = 0)))) = A
    cases A with
    | false => simp [bnd1_s]
    | true =>
      rcases (show s = 0 ∨ s = 1 by omega) with e | e <;> rw [e] <;> by_cases z : who σ i p = 0 <;> simp [z, bnd1_s, nI_0, nI_one, nI_1]
  · show B_Wi_hoursKept_l5 N (nI k) σ (L_Wi_hoursKept_l5 N (nI k) σ z) _ (nI 24) = _
    unfold B_Wi_hoursKept_l5
    rw [if_pos (by decide)]
/-- the reference's hours of a wish; b: what isBesides says of its square -/
theorem mo_keptHours {N : Nat} {σ : Mem} (hN : 1000 < N) {D : DX} (hW : IWish σ) (hD : DayG σ D) {k : Nat} (hk : k < 16) {b : Bool} (hb : f_Mo_isBesides N σ (mI σ 57 k) = some (if b then 1 else 0)) : f_Mo_keptHours N σ (nI k) = some (nI (kcn σ D b k)) := by
  obtain ⟨p, f, t, w, s, hp, hf, ht, hw, hs, p1, p2, f1, f2, t1, t2, w1, w2, s1, s2⟩ := hW.2 k hk
  have eM : kpM σ D b k = kpt D b p f t s := by
    unfold kpM
    rw [p1, f1, t1, s1, nI_clamp (by omega), nI_clamp (by omega), nI_clamp (by omega), nI_clamp (by omega)]
  unfold f_Mo_keptHours kcn
  rw [eM]
  rw [p1] at hb
  have g : inb (nI k) 16 = true := inb_j hk (by decide)
  have hc : (nI k).toNatClampNeg = k := nI_clamp (by omega)
  simp only [grd_t g, hc, p2, f2, letv]
  rw [grd_t (inb_j hp (by decide)), nI_clamp (by omega), hD.2.1 p hp, hb]
  by_cases c4 : D.2.1 p = 0
  · rw [if_pos c4, if_neg ne10]
    simp only [bnd1_s]
    have hz : cntB (kpt D b p f t s) f = 0 := cntB_zero f (fun i hi => by unfold kpt; simp [show ¬ f ≤ i by omega])
    have he : cntB (kpt D b p f t s) 24 = cntB (kpt D b p f t s) (f + (t - f)) := by
      have := cntB_ext (f := kpt D b p f t s) (m := f + (t - f)) (24 - (f + (t - f))) (fun i h1 h2 => by unfold kpt; simp [show ¬ i < t by omega])
      rw [show f + (t - f) + (24 - (f + (t - f))) = 24 by omega] at this
      exact this
    rw [he]
    have hL := loopS (L := fun z (a : Int32 × Int32) => L_Mo_keptHours_l37 N (nI k) (if b then 1 else 0) σ z a.1 a.2) (fun i => (nI (cntB (kpt D b p f t s) (f + i)), nI (f + i))) (nI (cntB (kpt D b p f t s) (f + (t - f)))) (t - f) (fun z i hi => by
      show B_Mo_keptHours_l37 N (nI k) (if b then 1 else 0) σ (L_Mo_keptHours_l37 N (nI k) (if b then 1 else 0) σ z) (nI (cntB (kpt D b p f t s) (f + i))) (nI (f + i)) = L_Mo_keptHours_l37 N (nI k) (if b then 1 else 0) σ z (nI (cntB (kpt D b p f t s) (f + i + 1))) (nI (f + i + 1))
      have hfi : f + i < 24 := by omega
      unfold B_Mo_keptHours_l37
      simp only [grd_t g, hc, t2, p2, s2]
      rw [if_neg (nI_ge (show f + i < t by omega) (by omega)), grd_t (inb_j hfi (by decide)), nI_clamp (by omega), hD.1 _ hfi, mo_whoG hD hfi hp, cntB_succ]
      simp only [bnd1_s, letv, nI_1]
      have hk1 : kpt D b p f t s (f + i) = (decide (D.1 (f + i) ≠ 0) && ((decide (D.2.2 (f + i) p ≠ 0) || b) != decide (s = 1))) := by
        unfold kpt
        simp [c4, show f + i < t by omega]
      rw [hk1]
      by_cases c3 : D.1 (f + i) = 0
      · rw [if_pos c3]
        simp [c3, bnd1_s]
      · rw [if_neg c3]
        rcases (show s = 0 ∨ s = 1 by omega) with e | e <;> rw [e] <;> by_cases z : D.2.2 (f + i) p = 0 <;> cases b <;> simp [z, c3, bnd1_s, nI_0, nI_one, nI_1]) (fun z => by
      show B_Mo_keptHours_l37 N (nI k) (if b then 1 else 0) σ (L_Mo_keptHours_l37 N (nI k) (if b then 1 else 0) σ z) _ (nI (f + (t - f))) = _
      unfold B_Mo_keptHours_l37
      simp only [grd_t g, hc, t2]
      rw [if_pos (nI_le (by omega) (by omega))]) (K := N) (by omega)
    rw [Nat.add_zero, hz] at hL
    exact hL
  · rw [if_neg c4, if_pos rfl, cntB_zero 24 (fun i _ => by unfold kpt; simp [c4])]
    rfl
theorem mo_noBesides {N : Nat} {σ : Mem} (hN : 100 < N) (h : mI σ 65 62 = 0) (a : Int32) : f_Mo_isBesides N σ a = some (if false = true then 1 else 0) := by
  unfold f_Mo_isBesides
  obtain ⟨z, rfl⟩ : ∃ z, N = z + 1 := ⟨N - 1, by omega⟩
  show B_Mo_isBesides_l2 _ _ _ _ _ = _
  unfold B_Mo_isBesides_l2
  rw [h, if_pos (by decide)]
  rfl
theorem wi_happiness {N : Nat} {σ : Mem} (hN : 1000 < N) (hI : Inv N σ) (hR : Rdy σ) (sun : Int32) : f_Wi_happiness N σ sun = some (hap σ (dC σ) (fun _ => false) sun) := by
  unfold f_Wi_happiness hap
  refine loopS (L := fun z (a : Int32 × Int32) => L_Wi_happiness_l5 N sun σ z a.1 a.2) (fun i => (sumI (fun k => if (stands (mI σ 56 0) k && decide (mI σ 60 k = sun)) = true then mI σ 61 k * nI (kcn σ (dC σ) false k) else 0) i, nI i)) _ 16 (fun z i hi => ?_) (fun z => ?_) (by omega)
  · show B_Wi_happiness_l5 N sun σ (L_Wi_happiness_l5 N sun σ z) _ (nI i) = L_Wi_happiness_l5 N sun σ z (sumI _ (i + 1)) (nI (i + 1))
    unfold B_Wi_happiness_l5
    have g : inb (nI i) 16 = true := inb_j hi (by decide)
    rw [if_neg (show ¬ ((16 : Int32) ≤ nI i) from nI_ge (b := 16) hi (by decide)), wi_told hi, sumI_succ]
    simp only [bnd1_s, letv, grd_t g, nI_clamp (show i < 2 ^ 31 by omega), nI_1]
    by_cases c0 : stands (mI σ 56 0) i = true
    · rw [if_pos c0, if_neg ne10, c0]
      by_cases c1 : mI σ 60 i = sun
      · rw [if_pos c1, wi_hoursKept hN hI hR hi c0]
        simp only [bnd1_s, c1, decide_true, Bool.and_self, if_true]
      · rw [if_neg c1]
        simp only [bnd1_s, c1, decide_false, Bool.and_false, if_neg f10, Int32.add_zero]
    · have c0' : stands (mI σ 56 0) i = false := by simpa using c0
      rw [if_neg c0, if_pos rfl, c0']
      simp only [bnd1_s, Bool.false_and, if_neg f10, Int32.add_zero]
  · show B_Wi_happiness_l5 N sun σ (L_Wi_happiness_l5 N sun σ z) _ (nI 16) = _
    unfold B_Wi_happiness_l5
    rw [if_pos (by decide)]
theorem mo_happyBy {N : Nat} {σ : Mem} (hN : 1000 < N) {D : DX} (hW : IWish σ) (hD : DayG σ D) {b : Nat → Bool} (hb : ∀ k, k < 16 → f_Mo_isBesides N σ (mI σ 57 k) = some (if b k then 1 else 0)) (sun : Int32) : f_Mo_happyBy N σ sun = some (hap σ D b sun) := by
  unfold f_Mo_happyBy hap
  refine loopS (L := fun z (a : Int32 × Int32) => L_Mo_happyBy_l4 N sun σ z a.1 a.2) (fun i => (sumI (fun k => if (stands (mI σ 56 0) k && decide (mI σ 60 k = sun)) = true then mI σ 61 k * nI (kcn σ D (b k) k) else 0) i, nI i)) _ 16 (fun z i hi => ?_) (fun z => ?_) (by omega)
  · show B_Mo_happyBy_l4 N sun σ (L_Mo_happyBy_l4 N sun σ z) _ (nI i) = L_Mo_happyBy_l4 N sun σ z (sumI _ (i + 1)) (nI (i + 1))
    unfold B_Mo_happyBy_l4
    have g : inb (nI i) 16 = true := inb_j hi (by decide)
    obtain ⟨p, f, t, w, s, hp, hf, ht, hw, hs, p1, p2, f1, f2, t1, t2, w1, w2, s1, s2⟩ := hW.2 i hi
    rw [if_neg (show ¬ ((16 : Int32) ≤ nI i) from nI_ge (b := 16) hi (by decide)), mo_wish hW hi, sumI_succ]
    simp only [bnd1_s, letv, grd_t g, nI_clamp (show i < 2 ^ 31 by omega), nI_1]
    rw [show mI σ 103 i = mI σ 60 i from s2.trans s1.symm, show mI σ 102 i = mI σ 61 i from w2.trans w1.symm]
    by_cases c0 : stands (mI σ 56 0) i = true
    · rw [if_pos c0, if_neg ne10, c0]
      by_cases c1 : mI σ 60 i = sun
      · rw [if_pos c1, mo_keptHours hN hW hD hi (hb i hi)]
        simp only [bnd1_s, c1, decide_true, Bool.and_self, if_true]
      · rw [if_neg c1]
        simp only [bnd1_s, c1, decide_false, Bool.and_false, if_neg f10, Int32.add_zero]
    · have c0' : stands (mI σ 56 0) i = false := by simpa using c0
      rw [if_neg c0, if_pos rfl, c0']
      simp only [bnd1_s, Bool.false_and, if_neg f10, Int32.add_zero]
  · show B_Mo_happyBy_l4 N sun σ (L_Mo_happyBy_l4 N sun σ z) _ (nI 16) = _
    unfold B_Mo_happyBy_l4
    rw [if_pos (by decide)]
theorem isWish_k {σ σ' : Mem} (h : mI σ' 65 55 = mI σ 65 55) (a : Int32) : f_Mo_isWish σ' a = f_Mo_isWish σ a := by
  unfold f_Mo_isWish
  rw [h]
theorem st_kept {N : Nat} (hN : 70000 ≤ N) : St_kept N := by
  intro σ a1 hI
  unfold f_Sh_kept f_Mo_kept
  rcases wish_eq hI a1 with ⟨b1, b2⟩ | ⟨b1, b2, k, hk, rfl, hst⟩
  · exact ⟨-1, σ, σ, by rw [b1]; rfl, by rw [b2]; rfl, hI⟩
  · obtain ⟨σ1, t1, I1, R1⟩ := today_ok hN hI
    have F1 := fm_Sh_today t1
    obtain ⟨σ2, p2, D2, I2, R2, F2⟩ := mo_laysDay hN I1 R1
    have F3 : Fr [] [(65, 62)] σ2 (sI σ2 65 62 0) := frI _ _ _ _
    have F13 : Fr [84, 85, 86, 87, 88] [(65, 37), (65, 62)] σ1 (sI σ2 65 62 0) := (F2.mono (by decide) (by simp)).c F3 (by decide) (by decide)
    have I3 := I2.k (F3.keeps (by decide))
    have hst1 : stands (mI σ1 56 0) k = true := by rw [F1.I 56 0 (by decide) (by decide)]; exact hst
    have hm := mo_keptHours (N := N) (by omega) I3.2.2.2.2.1 (D2.k (F3.keeps (by decide))).g hk (b := false) (mo_noBesides (by omega) (sI_s _ _ _ _) _)
    rw [kcn_k (F13.keeps (by decide)), dC_k (F13.keeps (by decide))] at hm
    refine ⟨nI (kcn σ1 (dC σ1) false k), σ1, sI σ2 65 62 0, ?_, ?_, I3⟩
    rotate_left
    · rw [isWish_k (F1.I 65 55 (by decide) (by decide)), b2, p2]
      simp only [bnd1_s, if_neg ne10, letv]
      rw [hm]
      rfl
    · rw [b1, t1]
      simp only [bnd1_s, if_neg ne10]
      rw [wi_hoursKept (by omega) I1 R1 hk hst1]
      rfl
theorem st_happy {N : Nat} (hN : 70000 ≤ N) : St_happy N := by
  intro σ hI
  unfold f_Sh_happy f_Mo_happy f_Mo_happyAll
  obtain ⟨σ1, t1, I1, R1⟩ := today_ok hN hI
  have F1 := fm_Sh_today t1
  obtain ⟨σ2, p2, D2, I2, R2, F2⟩ := mo_laysDay hN I1 R1
  have F3 : Fr [] [(65, 62)] σ2 (sI σ2 65 62 0) := frI _ _ _ _
  have F13 : Fr [84, 85, 86, 87, 88] [(65, 37), (65, 62)] σ1 (sI σ2 65 62 0) := (F2.mono (by decide) (by simp)).c F3 (by decide) (by decide)
  have I3 := I2.k (F3.keeps (by decide))
  have hm := fun sun => mo_happyBy (N := N) (by omega) I3.2.2.2.2.1 (D2.k (F3.keeps (by decide))).g (b := fun _ => false) (fun k _ => mo_noBesides (by omega) (sI_s _ _ _ _) _) sun
  refine ⟨hap σ1 (dC σ1) (fun _ => false) 0 + hap σ1 (dC σ1) (fun _ => false) 1, σ1, sI σ2 65 62 0, ?_, ?_, I3⟩
  rotate_left
  · rw [p2]
    simp only [bnd1_s, letv]
    rw [hm 0, hm 1, hap_k (F13.keeps (by decide)), hap_k (F13.keeps (by decide)), dC_k (F13.keeps (by decide))]
    rfl
  · rw [t1]
    simp only [bnd1_s]
    rw [wi_happiness (by omega) I1 R1, wi_happiness (by omega) I1 R1]
    simp only [bnd1_s]
    rw [Int32.add_comm]
