-- ===== the best awning: both sides =====
def hkI (σ : Mem) (D : DX) (β : Bool) (k : Nat) : Int32 := if stands (mI σ 56 0) k = true then mI σ 61 k * nI (kcn σ D β k) else 0
theorem hap_all {σ : Mem} {D : DX} (hW : IWish σ) (b : Nat → Bool) : hap σ D b 0 + hap σ D b 1 = sumI (fun k => hkI σ D (b k) k) 16 := by
  unfold hap
  rw [← sumI_add]
  refine sumI_congr 16 (fun k hk => ?_)
  obtain ⟨p, f, t, w, s, hp, hf, ht, hw, hs, p1, p2, f1, f2, t1, t2, w1, w2, s1, s2⟩ := hW.2 k hk
  unfold hkI
  rw [s1]
  rcases (show s = 0 ∨ s = 1 by omega) with rfl | rfl <;> cases stands (mI σ 56 0) k <;> simp [nI_0, nI_one]
theorem hk_gain {σ : Mem} (hW : IWish σ) {k : Nat} (hk : k < 16) : hkI σ (dC σ) true k = hkI σ (dC σ) false k + gnW σ k := by
  obtain ⟨p, f, t, w, s, hp, hf, ht, hw, hs, p1, p2, f1, f2, t1, t2, w1, w2, s1, s2⟩ := hW.2 k hk
  unfold hkI gnW
  by_cases c : stands (mI σ 56 0) k = true
  · rw [if_pos c, if_pos c]
    unfold kcn
    rw [mul_cnt, mul_cnt, ← sumI_add]
    refine sumI_congr 24 (fun h hh => ?_)
    unfold gnT kpM kpt dC
    rw [c, p1, f1, t1, s1, nI_clamp (by omega), nI_clamp (by omega), nI_clamp (by omega), nI_clamp (by omega)]
    simp only [Bool.true_and]
    generalize mI σ 61 k = w'
    by_cases q1 : f ≤ h
    · by_cases q2 : h < t
      · by_cases q3 : mI σ 34 h = 0
        · simp [q1, q2, q3]
        · by_cases q4 : mI σ 39 p = 0
          · by_cases q5 : who σ h p = 0
            · rcases (show s = 0 ∨ s = 1 by omega) with rfl | rfl
              · simp [q1, q2, q3, q4, q5, nI_0]
              · simp [q1, q2, q3, q4, q5, nI_one, Int32.add_right_neg]
            · rcases (show s = 0 ∨ s = 1 by omega) with rfl | rfl
              · simp [q1, q2, q3, q4, q5]
              · simp [q1, q2, q3, q4, q5]
          · simp [q1, q2, q3, q4]
      · simp [q1, q2]
    · simp [q1]
  · rw [if_neg c, if_neg c]
    rw [sumI_zero 24 (fun h _ => by
      unfold gnT
      rw [if_neg]
      intro z
      have := z.1
      simp [c] at this)]
    rfl
theorem hap_gain {σ : Mem} (hW : IWish σ) (b : Nat → Bool) : sumI (fun k => hkI σ (dC σ) (b k) k) 16 = sumI (fun k => hkI σ (dC σ) false k) 16 + sumI (fun k => if b k then gnW σ k else 0) 16 := by
  rw [← sumI_add]
  refine sumI_congr 16 (fun k hk => ?_)
  cases b k with
  | false => exact (Int32.add_zero _).symm
  | true => exact hk_gain hW hk
theorem aw_sum {N : Nat} {σ σ' : Mem} (hI : Inv N σ) (h62 : ∀ n, n < 144 → mI σ' 62 n = gnQ σ n) {sq dir len : Nat} (hs : sq < 144) (hd : dir < 4) (hl : len ≤ 3) : sumI (awG σ' sq dir) len = sumI (fun k => if inU sq dir len (mI σ 57 k).toNatClampNeg then gnW σ k else 0) 16 := by
  have e1 : sumI (awG σ' sq dir) len = sumI (fun i => sumI (fun k => if uS sq dir i = some (mI σ 57 k).toNatClampNeg then gnW σ k else 0) 16) len := by
    refine sumI_congr len (fun i hi => ?_)
    unfold awG
    cases hu : uS sq dir i with
    | none => exact (sumI_zero 16 (fun k _ => by rw [if_neg]; intro z; cases z)).symm
    | some n =>
      simp only
      rw [h62 n (uS_lt hs i n hu)]
      unfold gnQ
      refine sumI_congr 16 (fun k _ => ?_)
      by_cases c : (mI σ 57 k).toNatClampNeg = n
      · rw [if_pos c, if_pos (by rw [c])]
      · rw [if_neg c, if_neg (fun z => c (Option.some.inj z).symm)]
  rw [e1, sumI_comm]
  refine sumI_congr 16 (fun k _ => ?_)
  cases hq : inU sq dir len (mI σ 57 k).toNatClampNeg with
  | true =>
    obtain ⟨i, hi, hu⟩ := (inU_iff hl).mp hq
    rw [sumI_one (j := i) len hi (fun j hj hne => by
      rw [if_neg]
      intro z
      exact hne (uS_inj hs hd (by omega) (by omega) z hu)), if_pos hu]
    rfl
  | false =>
    rw [sumI_zero len (fun i hi => by
      rw [if_neg]
      intro z
      rw [(inU_iff hl).mpr ⟨i, hi, z⟩] at hq
      cases hq)]
    rfl
/-- happy, as a number -/
def hN1 (σ : Mem) (D : DX) (β : Bool) (k : Nat) : Nat := if stands (mI σ 56 0) k = true then (mI σ 61 k).toNatClampNeg * kcn σ D β k else 0
theorem sumI_nI (f : Nat → Nat) : ∀ m, sumI (fun k => nI (f k)) m = nI (sumN f m) := by
  intro m
  induction m with
  | zero => rfl
  | succ m ih => rw [sumI_succ, ih, sumN_succ, nI_add]
theorem hN_ok {σ : Mem} {D : DX} (hW : IWish σ) (b : Nat → Bool) : sumI (fun k => hkI σ D (b k) k) 16 = nI (sumN (fun k => hN1 σ D (b k) k) 16) ∧ sumN (fun k => hN1 σ D (b k) k) 16 ≤ 2400 * 16 := by
  constructor
  · rw [← sumI_nI]
    refine sumI_congr 16 (fun k hk => ?_)
    obtain ⟨p, f, t, w, s, hp, hf, ht, hw, hs, p1, p2, f1, f2, t1, t2, w1, w2, s1, s2⟩ := hW.2 k hk
    unfold hkI hN1
    by_cases c : stands (mI σ 56 0) k = true
    · rw [if_pos c, if_pos c, w1, nI_clamp (by omega), pk_mul]
    · rw [if_neg c, if_neg c]; rfl
  · refine sumN_le 16 (fun k hk => ?_)
    obtain ⟨p, f, t, w, s, hp, hf, ht, hw, hs, p1, p2, f1, f2, t1, t2, w1, w2, s1, s2⟩ := hW.2 k hk
    unfold hN1
    by_cases c : stands (mI σ 56 0) k = true
    · rw [if_pos c, w1, nI_clamp (by omega)]
      have : kcn σ D (b k) k ≤ 24 := cntB_le _ _
      calc w * kcn σ D (b k) k ≤ 100 * 24 := Nat.mul_le_mul (by omega) this
        _ = 2400 := rfl
    · rw [if_neg c]; omega
/-- how happy all are with an awning of this code -/
def aH (σ : Mem) (len c : Nat) : Nat := sumN (fun k => hN1 σ (dC σ) (inU (c / 4) (c % 4) len (mI σ 57 k).toNatClampNeg) k) 16
def aH0 (σ : Mem) : Nat := sumN (fun k => hN1 σ (dC σ) false k) 16
def bw (B : Nat → Bool) (H : Nat → Nat) : Nat → Option Nat
  | 0 => none
  | i + 1 => if B (i / 4) then (match bw B H i with
      | none => some i
      | some c => if H i ≤ H c then some c else some i) else bw B H i
theorem bw_succ (B : Nat → Bool) (H : Nat → Nat) (i : Nat) : bw B H (i + 1) = if B (i / 4) then (match bw B H i with
      | none => some i
      | some c => if H i ≤ H c then some c else some i) else bw B H i := rfl
theorem bw_lt (B : Nat → Bool) (H : Nat → Nat) : ∀ i c, bw B H i = some c → c < i := by
  intro i
  induction i with
  | zero => intro c h; cases h
  | succ i ih =>
    intro c h
    rw [bw_succ] at h
    cases hB : B (i / 4) with
    | false => rw [hB, if_neg f10] at h; have := ih c h; omega
    | true =>
      rw [hB, if_pos rfl] at h
      cases hb : bw B H i with
      | none => rw [hb] at h; cases h; omega
      | some d =>
        rw [hb] at h
        have := ih d hb
        simp only at h
        by_cases q : H i ≤ H d
        · rw [if_pos q] at h; cases h; omega
        · rw [if_neg q] at h; cases h; omega
def cbI (H : Nat → Nat) (h0 : Nat) : Option Nat → Int32 × Int32
  | none => (-1, 0)
  | some c => (nI c, nI (H c) - nI h0)
def mbI (H : Nat → Nat) : Option Nat → Int32 × Int32
  | none => (-1, -1)
  | some c => (nI c, nI (H c))
theorem sub_le {a b c : Nat} (ha : a < 2 ^ 30) (hb : b < 2 ^ 30) (hc : c < 2 ^ 30) : (nI a - nI c ≤ nI b - nI c) ↔ a ≤ b := by
  rw [Int32.le_iff_toInt_le, pk_sub_toInt ha hc, pk_sub_toInt hb hc]
  omega
theorem gain_eq {N : Nat} {σ σ' : Mem} (hN : 100 < N) (hI : Inv N σ) (h62 : ∀ n, n < 144 → mI σ' 62 n = gnQ σ n) {sq dir len : Nat} (hs : sq < 144) (hd : dir < 4) (hl : len ≤ 3) : f_Wi_gainOfAwning N σ' (nI sq) (nI dir) (nI len) = some (nI (aH σ len (4 * sq + dir)) - nI (aH0 σ)) := by
  rw [wi_gain hN hs hd hl, aw_sum hI h62 hs hd hl]
  have hW := hI.2.2.2.2.1
  have e1 := hap_gain hW (fun k => inU sq dir len (mI σ 57 k).toNatClampNeg)
  rw [(hN_ok hW _).1, (hN_ok hW (fun _ => false)).1] at e1
  unfold aH aH0
  rw [show (4 * sq + dir) / 4 = sq by omega, show (4 * sq + dir) % 4 = dir by omega, e1, Int32.add_comm, Int32.add_sub_cancel]
theorem wi_best {N : Nat} {σ σ' : Mem} (hN : 1000 < N) (hI : Inv N σ) (h62 : ∀ n, n < 144 → mI σ' 62 n = gnQ σ n) (h39 : mI σ' 39 = mI σ 39) {len : Nat} (hl : len ≤ 3) : L_Wi_bestAwningOf_l13 N (nI len) N (-1) 0 0 σ' = some ((cbI (aH σ len) (aH0 σ) (bw (fun q => decide (mI σ 39 q = 0)) (aH σ len) 576)).1, σ') := by
  have hW := hI.2.2.2.2.1
  have hb : ∀ c, aH σ len c < 2 ^ 30 := fun c => by
    have := (hN_ok (D := dC σ) hW (fun k => inU (c / 4) (c % 4) len (mI σ 57 k).toNatClampNeg)).2
    unfold aH
    omega
  have hb0 : aH0 σ < 2 ^ 30 := by
    have := (hN_ok (D := dC σ) hW (fun _ => false)).2
    unfold aH0
    omega
  obtain ⟨O, hO⟩ : ∃ O : Nat → Option Nat, O = bw (fun q => decide (mI σ 39 q = 0)) (aH σ len) := ⟨_, rfl⟩
  rw [← hO]
  have hOs : ∀ i, O (i + 1) = if decide (mI σ 39 (i / 4) = 0) = true then (match O i with
      | none => some i
      | some c => if aH σ len i ≤ aH σ len c then some c else some i) else O i := fun i => by rw [hO]; exact bw_succ _ _ i
  have inner : ∀ q, q < 144 → L_Wi_bestAwningOf_l24 N (nI len) (nI q) σ' N (cbI (aH σ len) (aH0 σ) (O (4 * q))).1 (cbI (aH σ len) (aH0 σ) (O (4 * q))).2 0 = some (cbI (aH σ len) (aH0 σ) (O (4 * q + 4))) := fun q hq => by
    obtain ⟨r, p, v⟩ := loopR (L := fun z (x : Int32 × Int32 × Int32) => L_Wi_bestAwningOf_l24 N (nI len) (nI q) σ' z x.1 x.2.1 x.2.2) (P := fun i x => (x.1, x.2.1) = cbI (aH σ len) (aH0 σ) (O (4 * q + i)) ∧ x.2.2 = nI i) (Q := fun r => r = cbI (aH σ len) (aH0 σ) (O (4 * q + 4))) (a := ((cbI (aH σ len) (aH0 σ) (O (4 * q))).1, (cbI (aH σ len) (aH0 σ) (O (4 * q))).2, 0)) (K := N) 4 (by
      rintro z i ⟨x, y, u⟩ hi ⟨h1, h2⟩
      have hu : u = nI i := h2
      subst hu
      change (x, y) = _ at h1
      show (∃ r, B_Wi_bestAwningOf_l24 N (nI len) (nI q) σ' (L_Wi_bestAwningOf_l24 N (nI len) (nI q) σ' z) x y (nI i) = some r ∧ _) ∨ ∃ a' : Int32 × Int32 × Int32, B_Wi_bestAwningOf_l24 N (nI len) (nI q) σ' (L_Wi_bestAwningOf_l24 N (nI len) (nI q) σ' z) x y (nI i) = L_Wi_bestAwningOf_l24 N (nI len) (nI q) σ' z a'.1 a'.2.1 a'.2.2 ∧ _
      unfold B_Wi_bestAwningOf_l24
      rw [if_neg (show ¬ ((4 : Int32) ≤ nI i) from nI_ge (b := 4) hi (by decide)), da_isFree hq, h39, gain_eq (by omega) hI h62 hq hi hl]
      simp only [bnd1_s, letv, nI_1]
      have hstep := hOs (4 * q + i)
      rw [show (4 * q + i) / 4 = q by omega] at hstep
      by_cases c : mI σ 39 q = 0
      · right
        rw [if_pos c, if_neg ne10, show 4 * nI q + nI i = nI (4 * q + i) by
          show nI 4 * nI q + nI i = _
          rw [pk_mul, nI_add]]
        rw [if_pos (by simp [c])] at hstep
        cases hb' : O (4 * q + i) with
        | none =>
          rw [hb'] at h1 hstep
          cases h1
          rw [if_pos rfl]
          refine ⟨(_, _, _), rfl, ?_, rfl⟩
          rw [← Nat.add_assoc, hstep]
          rfl
        | some d =>
          rw [hb'] at h1 hstep
          have hd : d < 576 := by
            rw [hO] at hb'
            have := bw_lt _ _ _ _ hb'
            omega
          cases h1
          rw [if_neg (nIm1 (by omega))]
          by_cases k : aH σ len (4 * q + i) ≤ aH σ len d
          · rw [if_pos ((sub_le (hb _) (hb _) hb0).mpr k)]
            refine ⟨(_, _, _), rfl, ?_, rfl⟩
            simp only [if_pos k] at hstep
            rw [← Nat.add_assoc, hstep]
            rfl
          · rw [if_neg (fun z => k ((sub_le (hb _) (hb _) hb0).mp z))]
            refine ⟨(_, _, _), rfl, ?_, rfl⟩
            simp only [if_neg k] at hstep
            rw [← Nat.add_assoc, hstep]
            rfl
      · left
        rw [if_neg c, if_pos rfl]
        refine ⟨_, rfl, ?_⟩
        rw [h1]
        have hsk : ∀ j, j ≤ 4 → O (4 * q + j) = O (4 * q) := by
          intro j
          induction j with
          | zero => intro _; rfl
          | succ j ih =>
            intro hj
            have := hOs (4 * q + j)
            rw [show (4 * q + j) / 4 = q by omega, if_neg (by simp [c])] at this
            rw [← Nat.add_assoc, this]
            exact ih (by omega)
        rw [hsk i (by omega), hsk 4 (by omega)]) (by
      rintro z ⟨x, y, u⟩ ⟨h1, h2⟩
      have hu : u = nI 4 := h2
      subst hu
      refine ⟨(x, y), ?_, h1⟩
      show B_Wi_bestAwningOf_l24 N (nI len) (nI q) σ' _ x y (nI 4) = _
      unfold B_Wi_bestAwningOf_l24
      rw [if_pos (by decide)]) (by omega) ⟨rfl, rfl⟩
    exact p.trans (by rw [v])
  have hO0 : O 0 = none := by rw [hO]; rfl
  have hL := loopS (L := fun z (x : Int32 × Int32 × Int32 × Mem) => L_Wi_bestAwningOf_l13 N (nI len) z x.1 x.2.1 x.2.2.1 x.2.2.2) (fun i => ((cbI (aH σ len) (aH0 σ) (O (4 * i))).1, (cbI (aH σ len) (aH0 σ) (O (4 * i))).2, nI i, σ')) ((cbI (aH σ len) (aH0 σ) (O 576)).1, σ') 144 (fun z i hi => by
    show B_Wi_bestAwningOf_l13 N (nI len) (L_Wi_bestAwningOf_l13 N (nI len) z) _ _ (nI i) σ' = L_Wi_bestAwningOf_l13 N (nI len) z (cbI (aH σ len) (aH0 σ) (O (4 * (i + 1)))).1 (cbI (aH σ len) (aH0 σ) (O (4 * (i + 1)))).2 (nI (i + 1)) σ'
    unfold B_Wi_bestAwningOf_l13
    rw [if_neg (show ¬ ((144 : Int32) ≤ nI i) from nI_ge (b := 144) hi (by decide)), inner i hi]
    simp only [bnd1_s, letv, nI_1]
    rfl) (fun z => by
    show B_Wi_bestAwningOf_l13 N (nI len) _ _ _ (nI 144) σ' = _
    unfold B_Wi_bestAwningOf_l13
    rw [if_pos (by decide)]) (K := N) (by omega)
  simp only [Nat.mul_zero, hO0] at hL
  exact hL
theorem mo_best {N : Nat} {σ : Mem} (hN : 1000 < N) (hI : Inv N σ) (hD : DayEq σ) {len : Nat} (hl : len ≤ 3) (a2 : Int32) : ∃ r, L_Mo_bestAwning_l32 N (nI len) a2 N (-1) (-1) 0 σ = some r ∧ ((r.1, r.2.1) = mbI (aH σ len) (bw (fun q => decide (mI σ 39 q = 0)) (aH σ len) 576) ∧ Fr [104] [(65, 62)] σ r.2.2) := by
  have hW := hI.2.2.2.2.1
  have hb : ∀ c, aH σ len c < 2 ^ 30 := fun c => by
    have := (hN_ok (D := dC σ) hW (fun k => inU (c / 4) (c % 4) len (mI σ 57 k).toNatClampNeg)).2
    unfold aH
    omega
  refine loopR (L := fun z (x : Int32 × Int32 × Int32 × Mem) => L_Mo_bestAwning_l32 N (nI len) a2 z x.1 x.2.1 x.2.2.1 x.2.2.2) (P := fun i x => (x.1, x.2.1) = mbI (aH σ len) (bw (fun q => decide (mI σ 39 q = 0)) (aH σ len) i) ∧ x.2.2.1 = nI i ∧ Fr [104] [(65, 62)] σ x.2.2.2) (a := (-1, -1, 0, σ)) 576 ?_ ?_ (by omega) ⟨rfl, rfl, Fr.rf _ _ _⟩
  · rintro z i ⟨x, y, u, s⟩ hi ⟨h1, h2, h3⟩
    have hu : u = nI i := h2
    subst hu
    change (x, y) = _ at h1
    change Fr _ _ σ s at h3
    have hq : i / 4 < 144 := by omega
    have hd : i % 4 < 4 := by omega
    have Ds := hD.k (h3.keeps (by decide))
    obtain ⟨s1, p1, v1, v2⟩ := mo_laysBesides (N := N) (σ := s) (len := len) (by omega) hq hd hl
    have F1 := fm_Mo_laysBesides p1
    have F01 : Fr [104] [(65, 62)] σ s1 := h3.t F1
    have W1 : IWish s1 := hW.k (F01.keeps (by decide))
    have D1 := (hD.k (F01.keeps (by decide))).g
    have hbs : ∀ k, k < 16 → f_Mo_isBesides N s1 (mI s1 57 k) = some (if inU (i / 4) (i % 4) len (mI σ 57 k).toNatClampNeg then 1 else 0) := fun k hk => by
      obtain ⟨p, f, t, w, s', hp, hf, ht, hw, hs', q1, q2, f1, f2, t1, t2, w1, w2, s1', s2⟩ := hW.2 k hk
      rw [F01.I 57 k (by decide) (by simp), q1, nI_clamp (by omega)]
      exact mo_isBesides (by omega) hq hl hp v1 v2
    have hh : f_Mo_happyAll N s1 = some (nI (aH σ len i)) := by
      unfold f_Mo_happyAll
      rw [mo_happyBy hN W1 D1 (b := fun k => inU (i / 4) (i % 4) len (mI σ 57 k).toNatClampNeg) hbs 0, mo_happyBy hN W1 D1 (b := fun k => inU (i / 4) (i % 4) len (mI σ 57 k).toNatClampNeg) hbs 1]
      simp only [bnd1_s]
      rw [hap_k (F01.keeps (by decide)), hap_k (F01.keeps (by decide)), dC_k (F01.keeps (by decide)), hap_all hW, (hN_ok hW _).1]
      rfl
    right
    show ∃ a' : Int32 × Int32 × Int32 × Mem, B_Mo_bestAwning_l32 N (nI len) a2 (L_Mo_bestAwning_l32 N (nI len) a2 z) x y (nI i) s = L_Mo_bestAwning_l32 N (nI len) a2 z a'.1 a'.2.1 a'.2.2.1 a'.2.2.2 ∧ _
    unfold B_Mo_bestAwning_l32
    rw [if_neg (show ¬ ((576 : Int32) ≤ nI i) from nI_ge (b := 576) hi (by decide)), show nI i - nI i / 4 * 4 = nI (i % 4) from pk_rem (d := 4) (by omega) (by decide) (by decide), show nI i / 4 = nI (i / 4) from pk_div (d := 4) (by omega) (by decide) (by decide), grd_t (inb_j hq (by decide)), nI_clamp (by omega), Ds.2.1 _ hq, h3.I 39 _ (by decide) (by simp), p1, bw_succ]
    simp only [bnd1_s, letv, nI_1]
    rw [hh]
    simp only [bnd1_s]
    by_cases c : mI σ 39 (i / 4) = 0
    · rw [if_pos c, if_neg ne10, if_pos (show decide (mI σ 39 (i / 4) = 0) = true by simp [c])]
      cases hb' : bw (fun q => decide (mI σ 39 q = 0)) (aH σ len) i with
      | none =>
        rw [hb'] at h1
        cases h1
        rw [if_pos (Int32.lt_of_lt_of_le (by decide) (nI_pos' (show aH σ len i < 2 ^ 31 by have := hb i; omega)))]
        exact ⟨(_, _, _, _), rfl, rfl, rfl, F01⟩
      | some d =>
        rw [hb'] at h1
        cases h1
        have h1' := hb i
        have h2' := hb d
        by_cases k : aH σ len i ≤ aH σ len d
        · rw [if_neg (nI_nlt k (by omega))]
          refine ⟨(_, _, _, _), rfl, ?_, rfl, F01⟩
          simp only [if_pos k]
          rfl
        · rw [if_pos (nI_lt (by omega) (by omega))]
          refine ⟨(_, _, _, _), rfl, ?_, rfl, F01⟩
          simp only [if_neg k]
          rfl
    · rw [if_neg c, if_pos rfl, if_neg (show ¬ decide (mI σ 39 (i / 4) = 0) = true by simp [c])]
      exact ⟨(_, _, _, _), rfl, h1, rfl, h3⟩
  · rintro z ⟨x, y, u, s⟩ ⟨h1, h2, h3⟩
    have hu : u = nI 576 := h2
    subst hu
    refine ⟨(x, y, s), ?_, h1, h3⟩
    show B_Mo_bestAwning_l32 N (nI len) a2 _ x y (nI 576) s = _
    unfold B_Mo_bestAwning_l32
    rw [if_pos (by decide)]
theorem aH_k {σ σ' : Mem} (g : Keeps [34, 38, 39, 57, 58, 59, 60, 61] [(56, 0)] σ σ') (len c : Nat) : aH σ' len c = aH σ len c := by
  unfold aH hN1
  rw [g.f 56 0 (by decide), g.r 57 (by decide), g.r 61 (by decide), dC_k (g.sub (by decide) (by decide))]
  refine sumN_congr 16 (fun k _ => ?_)
  rw [kcn_k (g.sub (by decide) (by decide))]
theorem st_bestAwning {N : Nat} (hN : 70000 ≤ N) : St_bestAwning N := by
  intro σ a1 a2 hI
  unfold f_Sh_bestAwning f_Mo_bestAwning
  rw [sh_isLength]
  rcases in1_cases a1 1 3 (by decide) (by decide) with g | ⟨g, len, hl1, hl2, rfl⟩
  · have g : f_Mo_in a1 1 3 = some 0 := g
    exact ⟨-1, σ, σ, by rw [g]; rfl, by rw [g]; rfl, hI⟩
  have g : f_Mo_in (nI len) 1 3 = some 1 := g
  rw [g]
  simp only [bnd1_s, if_neg ne10]
  rcases in_casesB a2 2 (by decide) with ⟨k, k'⟩ | ⟨k, k1, k2, w, hw, rfl⟩
  · have k : f_Mo_in a2 0 2 = some 0 := k
    refine ⟨-1, σ, σ, ?_, by rw [k]; rfl, hI⟩
    rcases k' with k' | ⟨k', k2⟩
    · rw [if_pos k']
    · rw [if_neg k', if_neg (show ¬ a2 ≤ 2 from k2)]
  have k : f_Mo_in (nI w) 0 2 = some 1 := k
  obtain ⟨σ1, t1, I1, R1⟩ := today_ok hN hI
  obtain ⟨s2, p2, v2⟩ := wi_findGains (N := N) (by omega) I1 R1
  have F2 := fm_Wi_findGains p2
  have hbest := wi_best (N := N) (σ := σ1) (σ' := s2) (len := len) (by omega) I1 v2 (F2.rowI 39 (by decide) (by simp)) hl2
  have I2 := I1.k (F2.keeps (by decide))
  have R2 := R1.k (F2.keeps (by decide))
  obtain ⟨σ3, p3, D3, I3, R3, F3⟩ := mo_laysDay hN I2 R2
  obtain ⟨⟨x, y, s4⟩, p4, v4, F4⟩ := mo_best (N := N) (σ := σ3) (len := len) (by omega) I3 D3 hl2 (nI w)
  change (x, y) = _ at v4
  change Fr _ _ σ3 s4 at F4
  have F13 : Fr [62, 84, 85, 86, 87, 88] [(65, 37)] σ1 σ3 := (F2.mono (by decide) (by simp)).c F3 (by decide) (fun _ z => z)
  have eH : aH σ3 len = aH σ1 len := funext fun c => aH_k (F13.keeps (by decide)) len c
  rw [eH, F13.rowI 39 (by decide) (by decide)] at v4
  have hlt := bw_lt (fun q => decide (mI σ1 39 q = 0)) (aH σ1 len) 576
  generalize bw (fun q => decide (mI σ1 39 q = 0)) (aH σ1 len) 576 = O at hbest v4 hlt
  have hcls : f_Wi_bestAwningOf N σ1 (nI len) = some ((cbI (aH σ1 len) (aH0 σ1) O).1, s2) := by
    unfold f_Wi_bestAwningOf
    rw [p2]
    exact hbest
  rw [if_neg k1, if_pos (show nI w ≤ 2 from k2), t1, k]
  simp only [bnd1_s, if_neg ne10]
  rw [hcls]
  simp only [bnd2_s]
  have I4 := I3.k (F4.keeps (by decide))
  have hmo : ∀ X : Option (Int32 × Mem), (if x = -1 then some (-2, s4) else if nI w = 0 then some (x / 4, s4) else if nI w = 1 then some (x - x / 4 * 4, s4) else some (y, s4)) = X → (bnd1 (f_Mo_laysDay N s2) fun σ21 => bnd1 (L_Mo_bestAwning_l32 N (nI len) (nI w) N (-1) (-1) 0 σ21) fun x32_ => q3 x32_ fun z32_3 z32_4 σ32_ => if z32_3 = -1 then some (-2, σ32_) else if nI w = 0 then some (z32_3 / 4, σ32_) else if nI w = 1 then some (z32_3 - z32_3 / 4 * 4, σ32_) else some (z32_4, σ32_)) = X := fun X h => by
    rw [p3]
    simp only [bnd1_s]
    rw [p4]
    exact h
  cases O with
  | none =>
    cases v4
    exact ⟨-2, s2, s4, rfl, hmo _ (by rw [if_pos rfl]), I4⟩
  | some c =>
    have hc := hlt c rfl
    cases v4
    have hp : (0 : Int32) ≤ nI c := nI_pos' (by omega)
    have hq : nI c / 4 = nI (c / 4) := pk_div (d := 4) (by omega) (by decide) (by decide)
    have hr : nI c - nI c / 4 * 4 = nI (c % 4) := pk_rem (d := 4) (by omega) (by decide) (by decide)
    have hgain := gain_eq (N := N) (by omega) I1 v2 (show c / 4 < 144 by omega) (show c % 4 < 4 by omega) hl2
    rw [show 4 * (c / 4) + c % 4 = c by omega] at hgain
    refine ⟨if nI w = 2 then nI (aH σ1 len c) else if nI w = 0 then nI (c / 4) else nI (c % 4), s2, s4, ?_, hmo _ ?_, I4⟩
    · show (if (0 : Int32) ≤ nI c then (if nI w = 2 then (bnd1 (f_Wi_happiness N s2 1) fun r53 => bnd1 (f_Wi_happiness N s2 0) fun r62 => bnd1 (f_Wi_gainOfAwning N s2 (nI c / 4) (nI c - nI c / 4 * 4) (nI len)) fun r83 => some (r53 + r62 + r83, s2)) else (if nI w = 0 then some (nI c / 4, s2) else some (nI c - nI c / 4 * 4, s2))) else some (-2, s2)) = _
      rw [if_pos hp, hr, hq]
      by_cases c2 : nI w = 2
      · rw [if_pos c2, if_pos c2, wi_happiness (by omega) I2 R2, wi_happiness (by omega) I2 R2]
        simp only [bnd1_s]
        rw [hgain]
        simp only [bnd1_s]
        rw [Int32.add_comm (hap s2 (dC s2) (fun _ => false) 1), hap_all I2.2.2.2.2.1, (hN_ok I2.2.2.2.2.1 (fun _ => false)).1]
        have e0 : sumN (fun k => hN1 s2 (dC s2) false k) 16 = aH0 σ1 := by
          unfold aH0 hN1
          refine sumN_congr 16 (fun k _ => ?_)
          rw [kcn_k (F2.keeps (by decide)), dC_k (F2.keeps (by decide)), F2.I 56 0 (by decide) (by simp), F2.I 61 k (by decide) (by simp)]
        rw [e0, Int32.add_comm, Int32.sub_add_cancel]
      · rw [if_neg c2, if_neg c2]
        by_cases c0 : nI w = 0
        · rw [if_pos c0, if_pos c0]
        · rw [if_neg c0, if_neg c0]
    · rw [if_neg (nIm1 (by omega)), hr, hq]
      rcases (show w = 0 ∨ w = 1 ∨ w = 2 by omega) with rfl | rfl | rfl
      · rw [if_pos nI_0, if_neg (show ¬ nI 0 = 2 by decide), if_pos nI_0]
      · rw [if_neg (show ¬ nI 1 = 0 by decide), if_pos nI_one, if_neg (show ¬ nI 1 = 2 by decide), if_neg (show ¬ nI 1 = 0 by decide)]
      · rw [if_neg (show ¬ nI 2 = 0 by decide), if_neg (show ¬ nI 2 = 1 by decide), if_pos (show nI 2 = 2 by decide)]
