-- ===== taken down: both sides =====
def orI (g : Nat → Int32) (f : Nat) : Nat → Int32
  | 0 => 0
  | i + 1 => orI g f i ||| g (f + i)
theorem orI_succ (g : Nat → Int32) (f i : Nat) : orI g f (i + 1) = orI g f i ||| g (f + i) := rfl
theorem orI_congr {g g' : Nat → Int32} {f : Nat} : ∀ m, (∀ i, i < m → g (f + i) = g' (f + i)) → orI g f m = orI g' f m := by
  intro m
  induction m with
  | zero => intro _; rfl
  | succ m ih =>
    intro h
    rw [orI_succ, orI_succ, ih (fun i hi => h i (by omega)), h m (by omega)]
theorem orI_ok {g : Nat → Int32} {f n s : Nat} (hn : n ≤ 16) : ∀ m, (∀ i, i < m → ∃ w : Nat, w < 2 ^ n ∧ g (f + i) = nI w ∧ sbs w s) → ∃ w : Nat, w < 2 ^ n ∧ orI g f m = nI w ∧ sbs w s := by
  intro m
  induction m with
  | zero => intro _; exact ⟨0, Nat.pow_pos (by decide), rfl, fun j h => by rw [Nat.zero_testBit] at h; cases h⟩
  | succ m ih =>
    intro h
    obtain ⟨w, h1, h2, h3⟩ := ih (fun i hi => h i (by omega))
    obtain ⟨v, g1, g2, g3⟩ := h m (by omega)
    rw [orI_succ, h2, g2, fa_or]
    refine ⟨w ||| v, Nat.or_lt_two_pow h1 g1, rfl, fun j hj => ?_⟩
    rw [Nat.testBit_or] at hj
    cases hw : w.testBit j with
    | true => exact h3 j hw
    | false => rw [hw] at hj; exact g3 j hj
theorem reach_ok {N : Nat} {σ : Mem} (hI : Inv N σ) (hR : Rdy σ) : ∃ n s : Nat, n ≤ 16 ∧ s < 2 ^ n ∧ mI σ 19 6 = nI n ∧ mI σ 65 0 = nI n ∧ mI σ 19 7 = nI s ∧ mI σ 65 1 = nI s ∧ ∀ h p, h < 24 → p < 144 → ∃ w : Nat, w < 2 ^ n ∧ mI σ 38 (144 * h + p) = nI w ∧ sbs w s := by
  obtain ⟨n, s, hn, hs, e1, e2, e3, e4⟩ := hI.town
  obtain ⟨-, -, -, -, -, -, -, -, hB⟩ := hI.day hR
  refine ⟨n, s, hn, hs, e1, e2, e3, e4, fun h p hh hp => ?_⟩
  have hs16 : s < 65536 := Nat.lt_of_lt_of_le hs (Nat.pow_le_pow_right (n := 2) (by decide) hn)
  rw [hB.2 h hh p hp]
  by_cases u : mI σ 34 h = 0
  · rw [if_pos u]; exact ⟨0, Nat.pow_pos (by decide), rfl, fun j h => by rw [Nat.zero_testBit] at h; cases h⟩
  · rw [if_neg u, e1, nI_clamp (by omega)]
    obtain ⟨w, hw, ew, hb⟩ := rch_bits (mI σ 19 7) (mI σ 20) (mI σ 21) (mI σ 22) (mI σ 23) (mI σ 35 h) (mI σ 36 h) p n hn
    refine ⟨w, hw, ew, fun j hj => ?_⟩
    rw [hb j] at hj
    simp only [Bool.and_eq_true, decide_eq_true_eq] at hj
    rw [← stands_bit (s := s) (by omega) (c := j) (by omega), ← e3]
    exact hj.2.1
def uWd (σ : Mem) (k : Nat) : Int32 := orI (fun h => mI σ 38 (144 * h + (mI σ 57 k).toNatClampNeg)) (mI σ 58 k).toNatClampNeg ((mI σ 59 k).toNatClampNeg - (mI σ 58 k).toNatClampNeg)
def uW (σ : Mem) (k : Nat) : Nat := (uWd σ k).toNatClampNeg
def hsW (N : Nat) (σ : Mem) (k : Nat) : Option Nat := match f_To_houseOn N σ (mI σ 57 k) with
  | none => none
  | some r => if r = -1 then none else some r.toNatClampNeg
def aW (σ : Mem) (k : Nat) : Bool := stands (mI σ 56 0) k && decide (mI σ 60 k ≠ 0)
theorem uW_ok {N : Nat} {σ : Mem} (hI : Inv N σ) (hR : Rdy σ) {n s : Nat} (hn : n ≤ 16) (hr : ∀ h p, h < 24 → p < 144 → ∃ w : Nat, w < 2 ^ n ∧ mI σ 38 (144 * h + p) = nI w ∧ sbs w s) {k : Nat} (hk : k < 16) : uW σ k < 2 ^ n ∧ uWd σ k = nI (uW σ k) ∧ sbs (uW σ k) s := by
  obtain ⟨p, f, t, w, s', hp, hf, ht, hw, hs', p1, p2, f1, f2, t1, t2, w1, w2, s1, s2⟩ := hI.2.2.2.2.1.2 k hk
  have h16 : (2 : Nat) ^ n ≤ 65536 := Nat.pow_le_pow_right (n := 2) (by decide) hn
  obtain ⟨v, v1, v2, v3⟩ := orI_ok (g := fun h => mI σ 38 (144 * h + p)) (f := f) (s := s) hn (t - f) (fun i hi => hr (f + i) p (by omega) hp)
  have e : uWd σ k = nI v := by
    unfold uWd
    rw [p1, f1, t1, nI_clamp (by omega), nI_clamp (by omega), nI_clamp (by omega)]
    exact v2
  have e2 : uW σ k = v := by
    unfold uW
    rw [e, nI_clamp (by omega)]
  rw [e2]
  exact ⟨v1, e, v3⟩
theorem hsW_ok {N : Nat} {σ : Mem} (hN : 100 < N) (hI : Inv N σ) (k : Nat) : f_To_houseOn N σ (mI σ 57 k) = some (bsI (hsW N σ k)) ∧ f_Mo_houseOn N σ (mI σ 57 k) = some (bsI (hsW N σ k)) ∧ ∀ c, hsW N σ k = some c → c < 16 := by
  obtain ⟨r, r1, r2, n, hn, e, h⟩ := house_eq hN hI.1 (mI σ 57 k)
  have hh : hsW N σ k = if r = -1 then none else some r.toNatClampNeg := by
    unfold hsW
    rw [r1]
  rcases h with ⟨rfl, -⟩ | ⟨c, hc, rfl, -, -⟩
  · rw [if_pos rfl] at hh
    rw [hh, r1, r2]
    exact ⟨rfl, rfl, fun c z => by cases z⟩
  · rw [if_neg (nIm1 (by omega)), nI_clamp (by omega)] at hh
    rw [hh, r1, r2]
    exact ⟨rfl, rfl, fun c' z => by cases z; omega⟩
section DownC
variable {N : Nat} {σ : Mem}
theorem wi_whoReaches (hN : 1000 < N) (hI : Inv N σ) {k : Nat} (hk : k < 16) : f_Wi_whoReachesWish N σ (nI k) = some (uWd σ k) := by
  obtain ⟨p, f, t, w, s', hp, hf, ht, hw, hs', p1, p2, f1, f2, t1, t2, w1, w2, s1, s2⟩ := hI.2.2.2.2.1.2 k hk
  have g := inb_j hk (show 16 < 2 ^ 31 by decide)
  have hc : (nI k).toNatClampNeg = k := nI_clamp (by omega)
  unfold f_Wi_whoReachesWish uWd
  rw [grd_t g, hc, p1, f1, t1, nI_clamp (by omega), nI_clamp (by omega), nI_clamp (by omega)]
  simp only [letv]
  have hL := loopS (L := fun z (x : Int32 × Int32) => L_Wi_whoReachesWish_l10 N (nI k) σ z x.1 x.2) (fun i => (orI (fun h => mI σ 38 (144 * h + p)) f i, nI (f + i))) (orI (fun h => mI σ 38 (144 * h + p)) f (t - f)) (t - f) (fun z i hi => by
    show B_Wi_whoReachesWish_l10 N (nI k) σ (L_Wi_whoReachesWish_l10 N (nI k) σ z) _ (nI (f + i)) = L_Wi_whoReachesWish_l10 N (nI k) σ z (orI _ f (i + 1)) (nI (f + i + 1))
    unfold B_Wi_whoReachesWish_l10 f_Da_whoReaches
    rw [grd_t g, grd_t g, hc, t1, if_neg (nI_ge (show f + i < t by omega) (by omega)), p1, hour_t (by omega)]
    simp only [bnd1_s, if_neg ne10, letv, nI_1]
    rw [if_neg (nI_pos (by omega)), if_neg (show ¬ ((144 : Int32) ≤ nI p) from nI_ge (b := 144) hp (by decide)), ixC, grd_t (inb_j (by omega) (by decide)), nI_clamp (by omega)]
    rfl) (fun z => by
    show B_Wi_whoReachesWish_l10 N (nI k) σ _ _ (nI (f + (t - f))) = _
    unfold B_Wi_whoReachesWish_l10
    rw [grd_t g, hc, t1, if_pos (nI_le (by omega) (by omega))]) (K := N) (by omega)
  exact hL
theorem bitz {g i : Nat} (hg : g < 65536) (hi : i < 16) : ((nI g >>> (nI i &&& 31)) &&& 1 = 0) ↔ g.testBit i = false := by
  rw [bit_at (by omega) (by omega), Nat.testBit_eq_decide_div_mod_eq]
  have h : g / 2 ^ i % 2 < 2 := Nat.mod_lt _ (by decide)
  have e : (nI (g / 2 ^ i % 2) = 0) ↔ g / 2 ^ i % 2 = 0 := nI_eq (b := 0) (by omega) (by decide)
  rw [e]
  simp
theorem wi_held (hN : 100 < N) (hI : Inv N σ) {S : Nat} (hS : S < 65536) (k : Nat) : f_Wi_isHeldByHouse N σ (mI σ 57 k) (nI S) = some (if hld (hsW N σ) S k then 1 else 0) := by
  obtain ⟨h1, -, h3⟩ := hsW_ok hN hI k
  unfold f_Wi_isHeldByHouse hld
  rw [h1]
  simp only [bnd1_s]
  cases hh : hsW N σ k with
  | none => rfl
  | some c =>
    have hc := h3 c hh
    show (if nI c = -1 then _ else _) = _
    rw [if_neg (nIm1 (by omega))]
    show (if (nI S >>> (nI c &&& 31)) &&& 1 = 0 then some 1 else some 0) = _
    cases hb : S.testBit c with
    | false => rw [if_pos ((bitz hS hc).mpr hb)]; simp [hb]
    | true => rw [if_neg (fun z => by rw [(bitz hS hc).mp z] at hb; cases hb)]; simp [hb]
theorem wi_inTheWay (hN : 1000 < N) (hI : Inv N σ) (hR : Rdy σ) : f_Wi_inTheWayOfSun N σ = some (nI (gAll (aW σ) (hsW N σ) (uW σ) 17)) := by
  obtain ⟨n, s, hn, hs, e1, e2, e3, e4, hr⟩ := reach_ok hI hR
  have hU : ∀ k, k < 16 → uW σ k < 2 ^ n := fun k hk => (uW_ok hI hR hn hr hk).1
  have h16 : (2 : Nat) ^ n ≤ 65536 := Nat.pow_le_pow_right (n := 2) (by decide) hn
  have hrd : ∀ S, S < 2 ^ n → ∀ k, k ≤ 16 → gRound (aW σ) (hsW N σ) (uW σ) S k < 2 ^ n := by
    intro S h k
    induction k with
    | zero => intro _; exact h
    | succ k ih =>
      intro hk
      show gStep _ _ _ _ k < _
      unfold gStep
      by_cases c : (aW σ k && !hld (hsW N σ) (gRound (aW σ) (hsW N σ) (uW σ) S k) k) = true
      · rw [if_pos c]; exact Nat.or_lt_two_pow (ih (by omega)) (hU k (by omega))
      · rw [if_neg c]; exact ih (by omega)
  have inner : ∀ (S : Nat) (a4 : Int32), S < 2 ^ n → L_Wi_inTheWayOfSun_l15 N a4 σ N (nI S) 0 = some (nI (gRound (aW σ) (hsW N σ) (uW σ) S 16)) := fun S a4 hS => by
    refine loopS (L := fun z (x : Int32 × Int32) => L_Wi_inTheWayOfSun_l15 N a4 σ z x.1 x.2) (fun i => (nI (gRound (aW σ) (hsW N σ) (uW σ) S i), nI i)) _ 16 (fun z i hi => ?_) (fun z => ?_) (by omega)
    · show B_Wi_inTheWayOfSun_l15 N a4 σ (L_Wi_inTheWayOfSun_l15 N a4 σ z) (nI (gRound (aW σ) (hsW N σ) (uW σ) S i)) (nI i) = L_Wi_inTheWayOfSun_l15 N a4 σ z (nI (gStep (aW σ) (hsW N σ) (uW σ) (gRound (aW σ) (hsW N σ) (uW σ) S i) i)) (nI (i + 1))
      have hT := hrd S hS i (by omega)
      generalize gRound (aW σ) (hsW N σ) (uW σ) S i = T at hT
      have g := inb_j hi (show 16 < 2 ^ 31 by decide)
      have hc : (nI i).toNatClampNeg = i := nI_clamp (by omega)
      unfold B_Wi_inTheWayOfSun_l15 gStep aW
      rw [if_neg (show ¬ ((16 : Int32) ≤ nI i) from nI_ge (b := 16) hi (by decide)), wi_told hi]
      simp only [bnd1_s, letv, nI_1, grd_t g, hc]
      rw [wi_held (by omega) hI (by omega), wi_whoReaches hN hI hi, (uW_ok hI hR hn hr hi).2.1]
      simp only [bnd1_s]
      cases stands (mI σ 56 0) i with
      | false => simp [bnd1_s]
      | true =>
        simp only [if_true, if_neg ne10, Bool.true_and]
        by_cases c0 : mI σ 60 i = 0
        · simp [c0, bnd1_s]
        · cases hld (hsW N σ) T i with
          | true => simp [c0, bnd1_s]
          | false => simp [c0, bnd1_s, fa_or]
    · show B_Wi_inTheWayOfSun_l15 N a4 σ _ _ (nI 16) = _
      unfold B_Wi_inTheWayOfSun_l15
      rw [if_pos (by decide)]
  unfold f_Wi_inTheWayOfSun
  refine loopS (L := fun z (x : Int32 × Int32) => L_Wi_inTheWayOfSun_l5 N σ z x.1 x.2) (fun i => (nI (gAll (aW σ) (hsW N σ) (uW σ) i), nI i)) _ 17 (fun z i hi => ?_) (fun z => ?_) (by omega)
  · show B_Wi_inTheWayOfSun_l5 N σ (L_Wi_inTheWayOfSun_l5 N σ z) (nI (gAll (aW σ) (hsW N σ) (uW σ) i)) (nI i) = L_Wi_inTheWayOfSun_l5 N σ z (nI (gRound (aW σ) (hsW N σ) (uW σ) (gAll (aW σ) (hsW N σ) (uW σ) i) 16)) (nI (i + 1))
    unfold B_Wi_inTheWayOfSun_l5
    rw [if_neg (show ¬ ((16 : Int32) < nI i) from nI_nlt (a := 16) (by omega) (by decide)), inner _ _ (gAll_lt (aW σ) (hsW N σ) (uW σ) hU i)]
    simp only [bnd1_s, letv, nI_1]
  · show B_Wi_inTheWayOfSun_l5 N σ _ _ (nI 17) = _
    unfold B_Wi_inTheWayOfSun_l5
    rw [if_pos (by decide)]
end DownC
theorem mo_laysUnder {N : Nat} {σ : Mem} (hN : 70000 ≤ N) (hI : Inv N σ) (hR : Rdy σ) : ∃ σ', f_Mo_laysUnder N σ = some σ' ∧ ∀ k, k < 16 → mI σ' 106 k = (if aW σ k then uWd σ k else 0) ∧ mI σ' 107 k = (if aW σ k then bsI (hsW N σ k) else -1) := by
  obtain ⟨nt, hnt, e6, e0, e1, e2, e3, ec, hz, hT⟩ := hI.mtown
  obtain ⟨n, lt, Hs, Vs, ok, hc, hm, hS, hB⟩ := hI.day hR
  -- all squares are called free
  obtain ⟨s1, p1, v1, F1⟩ : ∃ s, L_Mo_laysUnder_l2 N N 0 σ = some s ∧ ((∀ q, q < 144 → mI s 88 q = 1) ∧ Fr [88] [] σ s) := by
    refine loopR (L := fun z (x : Int32 × Mem) => L_Mo_laysUnder_l2 N z x.1 x.2) (P := fun i x => x.1 = nI i ∧ (∀ q, q < i → mI x.2 88 q = 1) ∧ Fr [88] [] σ x.2) (a := (0, σ)) 144 ?_ ?_ (by omega) ⟨rfl, fun q hq => absurd hq (Nat.not_lt_zero q), Fr.rf _ _ _⟩
    · rintro z i ⟨x, s⟩ hi ⟨h1, h2, h3⟩
      have hx : x = nI i := h1
      subst hx
      refine Or.inr ⟨(nI (i + 1), sI s 88 i 1), ?_, rfl, fun q hq => ?_, h3.aI rfl (by decide)⟩
      · show B_Mo_laysUnder_l2 N (L_Mo_laysUnder_l2 N z) (nI i) s = _
        unfold B_Mo_laysUnder_l2
        rw [if_neg (show ¬ ((144 : Int32) ≤ nI i) from nI_ge (b := 144) hi (by decide)), grd_t (inb_j hi (by decide)), nI_clamp (by omega)]
        simp only [letv, nI_1]
        rfl
      · show mI (sI s 88 i 1) 88 q = 1
        rw [rdI]
        by_cases e : q = i
        · rw [if_pos ⟨rfl, e⟩]
        · rw [if_neg (fun z => e z.2)]
          exact h2 q (by omega)
    · rintro z ⟨x, s⟩ ⟨h1, h2, h3⟩
      have hx : x = nI 144 := h1
      subst hx
      refine ⟨s, ?_, h2, h3⟩
      show B_Mo_laysUnder_l2 N _ (nI 144) s = _
      unfold B_Mo_laysUnder_l2
      rw [if_pos (by decide)]
  -- all hours
  obtain ⟨s2, p2, v2, F2⟩ : ∃ s, L_Mo_laysUnder_l24 N N 0 s1 = some s ∧ ((∀ h q, h < 24 → q < 144 → mI s 86 (144 * h + q) = mI σ 38 (144 * h + q)) ∧ Fr [84, 85, 86, 87] [] s1 s) := by
    refine loopR (L := fun z (x : Int32 × Mem) => L_Mo_laysUnder_l24 N z x.1 x.2) (P := fun i x => x.1 = nI i ∧ (∀ h q, h < i → q < 144 → mI x.2 86 (144 * h + q) = mI σ 38 (144 * h + q)) ∧ Fr [84, 85, 86, 87] [] s1 x.2) (a := (0, s1)) 24 ?_ ?_ (by omega) ⟨rfl, fun h q hh => absurd hh (Nat.not_lt_zero h), Fr.rf _ _ _⟩
    · rintro z i ⟨x, s⟩ hi ⟨h1, h2, h3⟩
      have hx : x = nI i := h1
      subst hx
      change Fr _ _ s1 s at h3
      have Fs : Fr [84, 85, 86, 87, 88] [] σ s := (F1.mono (by decide) (fun _ z => z)).c h3 (by decide) (by simp)
      obtain ⟨s', p, w1, w2, w3, w4⟩ := mo_laysHour (N := N) (σ := s) hN ok (hm.k (Fs.keeps (by decide))) hnt ((Fs.I 65 0 (by decide) (by simp)).trans e0) (fun c hc => by rw [Fs.I 68 c (by decide) (by simp)]; exact hz c hc) hi
      have F' := fm_Mo_laysHour p
      refine Or.inr ⟨(nI (i + 1), s'), ?_, rfl, fun h q hh hq => ?_, h3.t F'⟩
      · show B_Mo_laysUnder_l24 N (L_Mo_laysUnder_l24 N z) (nI i) s = _
        unfold B_Mo_laysUnder_l24
        rw [if_neg (show ¬ ((24 : Int32) ≤ nI i) from nI_ge (b := 24) hi (by decide)), p]
        simp only [bnd1_s, letv, nI_1]
      · show mI s' 86 (144 * h + q) = _
        by_cases e : h = i
        · subst e
          have e88 : mI s 88 q = 1 := (h3.I 88 q (by decide) (by simp)).trans (v1 q hq)
          rw [w4 q hq, e88, Fs.I 65 1 (by decide) (by simp), Fs.I 65 2 (by decide) (by simp), Fs.rowI 66 (by decide) (by simp), Fs.rowI 67 (by decide) (by simp), Fs.rowI 68 (by decide) (by simp), Fs.rowI 69 (by decide) (by simp), e1, e2, ← (hS h hi).1, ← (hS h hi).2.1, ← (hS h hi).2.2.1, hB.2 h hi q hq, e6, nI_clamp (by omega), rch_congr (k' := mI σ 20) (p' := mI σ 21) (z' := mI σ 22) (d' := mI σ 23) nt (fun c hc => ⟨(ec c (by omega)).1, (ec c (by omega)).2.1, (ec c (by omega)).2.2.1, (ec c (by omega)).2.2.2.1⟩)]
          simp [ne10]
        · rw [w3 _ (by omega)]
          exact h2 h q (by omega) hq
    · rintro z ⟨x, s⟩ ⟨h1, h2, h3⟩
      have hx : x = nI 24 := h1
      subst hx
      refine ⟨s, ?_, h2, h3⟩
      show B_Mo_laysUnder_l24 N _ (nI 24) s = _
      unfold B_Mo_laysUnder_l24
      rw [if_pos (by decide)]
  have F02 : Fr [84, 85, 86, 87, 88] [] σ s2 := (F1.mono (by decide) (fun _ z => z)).c F2 (by decide) (by simp)
  unfold f_Mo_laysUnder
  rw [p1]
  simp only [bnd1_s]
  rw [p2]
  simp only [bnd1_s]
  have hW := hI.2.2.2.2.1
  obtain ⟨s3, p3, v3, -⟩ := loopR (L := fun z (x : Int32 × Mem) => L_Mo_laysUnder_l43 N z x.1 x.2) (P := fun i x => x.1 = nI i ∧ (∀ k, k < i → mI x.2 106 k = (if aW σ k then uWd σ k else 0) ∧ mI x.2 107 k = (if aW σ k then bsI (hsW N σ k) else -1)) ∧ Fr [106, 107] [] s2 x.2) (Q := fun s => (∀ k, k < 16 → mI s 106 k = (if aW σ k then uWd σ k else 0) ∧ mI s 107 k = (if aW σ k then bsI (hsW N σ k) else -1)) ∧ Fr [106, 107] [] s2 s) (a := (0, s2)) (K := N) 16 (by
    rintro z i ⟨x, s⟩ hi ⟨h1, h2, h3⟩
    have hx : x = nI i := h1
    subst hx
    change ∀ k, k < i → mI s 106 k = _ ∧ mI s 107 k = _ at h2
    change Fr _ _ s2 s at h3
    obtain ⟨p, f, t, w, s', hp, hf, ht, hw, hs', q1, q2, f1, f2, t1, t2, w1, w2, s1', s2'⟩ := hW.2 i hi
    have g := inb_j hi (show 16 < 2 ^ 31 by decide)
    have hc : (nI i).toNatClampNeg = i := nI_clamp (by omega)
    have F62 : Fr [106, 107] [] s2 (sI (sI s 106 i 0) 107 i (-1)) := (h3.aI (σ2 := sI s 106 i 0) rfl (by decide)).aI rfl (by decide)
    have G62 : Fr [84, 85, 86, 87, 88, 106, 107] [] σ (sI (sI s 106 i 0) 107 i (-1)) := (F02.mono (by decide) (fun _ z => z)).c F62 (by decide) (by simp)
    have I62 := hI.k (G62.keeps (by decide))
    have hwish : f_Mo_isWish (sI (sI s 106 i 0) 107 i (-1)) (nI i) = some (if stands (mI σ 56 0) i = true then 1 else 0) := by
      rw [mo_wish I62.2.2.2.2.1 hi, G62.I 56 0 (by decide) (by simp)]
    have r103 : mI (sI (sI s 106 i 0) 107 i (-1)) 103 i = mI σ 60 i := by rw [G62.I 103 i (by decide) (by simp), s2', s1']
    have r99 : mI (sI (sI s 106 i 0) 107 i (-1)) 99 i = mI σ 57 i := by rw [G62.I 99 i (by decide) (by simp), q2, q1]
    -- nothing is asked of this wish
    have hno : aW σ i = false → ∃ a' : Int32 × Mem, L_Mo_laysUnder_l43 N z (nI (i + 1)) (sI (sI s 106 i 0) 107 i (-1)) = L_Mo_laysUnder_l43 N z a'.1 a'.2 ∧ (a'.1 = nI (i + 1) ∧ (∀ k, k < i + 1 → mI a'.2 106 k = (if aW σ k then uWd σ k else 0) ∧ mI a'.2 107 k = (if aW σ k then bsI (hsW N σ k) else -1)) ∧ Fr [106, 107] [] s2 a'.2) := fun hf => by
      refine ⟨(_, _), rfl, rfl, fun k hk => ?_, F62⟩
      show mI (sI (sI s 106 i 0) 107 i (-1)) 106 k = _ ∧ mI (sI (sI s 106 i 0) 107 i (-1)) 107 k = _
      rw [rdI, rdI, rdI, rdI]
      by_cases e : k = i
      · subst e; rw [hf]; simp
      · have := h2 k (by omega)
        simp [e, this.1, this.2]
    right
    show ∃ a' : Int32 × Mem, B_Mo_laysUnder_l43 N (L_Mo_laysUnder_l43 N z) (nI i) s = L_Mo_laysUnder_l43 N z a'.1 a'.2 ∧ _
    unfold B_Mo_laysUnder_l43
    rw [if_neg (show ¬ ((16 : Int32) ≤ nI i) from nI_ge (b := 16) hi (by decide))]
    simp only [grd_t g, hc, letv, nI_1]
    rw [hwish, r103, r99]
    simp only [bnd1_s]
    by_cases c1 : stands (mI σ 56 0) i = true
    · rw [if_pos c1, if_neg ne10]
      by_cases c2 : mI σ 60 i = 0
      · rw [if_pos c2]
        simp only [bnd1_s]
        exact hno (by unfold aW; simp [c2])
      · rw [if_neg c2]
        have ha : aW σ i = true := by unfold aW; simp [c1, c2]
        have hho : f_Mo_houseOn N (sI (sI s 106 i 0) 107 i (-1)) (mI σ 57 i) = some (bsI (hsW N σ i)) := by
          obtain ⟨r, r1, r2⟩ := mo_houseOn (N := N) (σ := sI (sI s 106 i 0) 107 i (-1)) (by omega) hnt ((G62.I 65 0 (by decide) (by simp)).trans e0) (mI σ 57 i)
          obtain ⟨r', r1', r2'⟩ := mo_houseOn (N := N) (σ := σ) (by omega) hnt e0 (mI σ 57 i)
          rw [G62.I 65 1 (by decide) (by simp), G62.rowI 66 (by decide) (by simp), G62.rowI 67 (by decide) (by simp)] at r2
          have er : r = r' := HseR.uniq (fun _ _ => ⟨rfl, rfl⟩) r2 r2'
          rw [r1, er, ← r1', (hsW_ok (by omega) hI i).2.1]
        rw [hho]
        simp only [bnd1_s]
        obtain ⟨s9, hs9⟩ : ∃ s9, s9 = sI (sI (sI s 106 i 0) 107 i (-1)) 107 i (bsI (hsW N σ i)) := ⟨_, rfl⟩
        rw [← hs9]
        have F98 : Fr [106, 107] [] s2 s9 := by rw [hs9]; exact F62.aI rfl (by decide)
        have G98 : Fr [84, 85, 86, 87, 88, 106, 107] [] σ s9 := (F02.mono (by decide) (fun _ z => z)).c F98 (by decide) (by simp)
        have x106 : mI s9 106 i = 0 := by rw [hs9, sI_n _ _ (by omega), sI_n _ _ (by omega), sI_s]
        rw [G98.I 100 i (by decide) (by simp), f2]
        obtain ⟨s5, p5, v5, w5, F5⟩ : ∃ s5, L_Mo_laysUnder_l106 N (nI i) N (nI f) s9 = some s5 ∧ (mI s5 106 i = uWd σ i ∧ (∀ k, k ≠ i → mI s5 106 k = mI s9 106 k) ∧ Fr [106] [] s9 s5) := by
          have huw : uWd σ i = orI (fun h => mI σ 38 (144 * h + p)) f (t - f) := by
            unfold uWd
            rw [q1, f1, t1, nI_clamp (by omega), nI_clamp (by omega), nI_clamp (by omega)]
          rw [huw]
          refine loopR (L := fun z (x : Int32 × Mem) => L_Mo_laysUnder_l106 N (nI i) z x.1 x.2) (P := fun j x => x.1 = nI (f + j) ∧ mI x.2 106 i = orI (fun h => mI σ 38 (144 * h + p)) f j ∧ (∀ k, k ≠ i → mI x.2 106 k = mI s9 106 k) ∧ Fr [106] [] s9 x.2) (a := (nI f, s9)) (t - f) ?_ ?_ (by omega) ⟨rfl, x106, fun _ _ => rfl, Fr.rf _ _ _⟩
          · rintro z' j ⟨y, u⟩ hj ⟨k1, k2, k3, k4⟩
            have hy : y = nI (f + j) := k1
            subst hy
            change mI u 106 i = _ at k2
            change ∀ k, k ≠ i → mI u 106 k = _ at k3
            change Fr _ _ s9 u at k4
            have Gu : Fr [84, 85, 86, 87, 88, 106, 107] [] σ u := G98.c k4 (by decide) (by simp)
            have Fu2 : Fr [106, 107] [] s2 u := F98.c k4 (by decide) (by simp)
            have hfj : f + j < 24 := by omega
            refine Or.inr ⟨(nI (f + j + 1), sI u 106 i (orI (fun h => mI σ 38 (144 * h + p)) f (j + 1))), ?_, rfl, sI_s _ _ _ _, fun k hk => ?_, k4.aI rfl (by decide)⟩
            · show B_Mo_laysUnder_l106 N (nI i) (L_Mo_laysUnder_l106 N (nI i) z') (nI (f + j)) u = _
              unfold B_Mo_laysUnder_l106 f_Mo_whoOn
              simp only [grd_t g, hc]
              rw [Gu.I 101 i (by decide) (by simp), t2, if_neg (nI_ge (show f + j < t by omega) (by omega)), Gu.I 99 i (by decide) (by simp), q2, ixM, grd_t (inb_j (by omega) (by decide)), nI_clamp (by omega), Fu2.I 86 _ (by decide) (by simp), v2 _ _ hfj hp, k2]
              simp only [bnd1_s, letv, nI_1]
              rfl
            · show mI (sI u 106 i _) 106 k = _
              rw [sI_n _ _ (by omega)]
              exact k3 k hk
          · rintro z' ⟨y, u⟩ ⟨k1, k2, k3, k4⟩
            have hy : y = nI (f + (t - f)) := k1
            subst hy
            change Fr _ _ s9 u at k4
            have Gu : Fr [84, 85, 86, 87, 88, 106, 107] [] σ u := G98.c k4 (by decide) (by simp)
            refine ⟨u, ?_, k2, k3, k4⟩
            show B_Mo_laysUnder_l106 N (nI i) _ (nI (f + (t - f))) u = _
            unfold B_Mo_laysUnder_l106
            rw [grd_t g, hc, Gu.I 101 i (by decide) (by simp), t2, if_pos (nI_le (by omega) (by omega))]
        rw [p5]
        refine ⟨(nI (i + 1), s5), rfl, rfl, fun k hk => ?_, F98.c F5 (by decide) (by simp)⟩
        show mI s5 106 k = _ ∧ mI s5 107 k = _
        rw [F5.I 107 k (by decide) (by simp), hs9]
        by_cases e : k = i
        · subst e
          rw [v5, ha, sI_s]
          exact ⟨rfl, rfl⟩
        · rw [w5 k e, hs9, sI_n _ _ (by omega), sI_n _ _ (by omega), sI_n _ _ (by omega), sI_n _ _ (by omega), sI_n _ _ (by omega), sI_n _ _ (by omega)]
          exact h2 k (by omega)
    · rw [if_neg c1, if_pos rfl]
      simp only [bnd1_s]
      exact hno (by unfold aW; simp [c1])) (by
    rintro z ⟨x, s⟩ ⟨h1, h2, h3⟩
    have hx : x = nI 16 := h1
    subst hx
    refine ⟨s, ?_, h2, h3⟩
    show B_Mo_laysUnder_l43 N _ (nI 16) s = _
    unfold B_Mo_laysUnder_l43
    rw [if_pos (by decide)]) (by omega) ⟨rfl, fun k hk => absurd hk (Nat.not_lt_zero k), Fr.rf _ _ _⟩
  exact ⟨s3, p3, v3⟩
theorem mo_doesWithout {N : Nat} {σ : Mem} {A : Nat → Bool} {H : Nat → Option Nat} {U : Nat → Nat} {S : Nat} (hN : 100 < N) (hS : S < 65536) (hU : ∀ k, k < 16 → U k < 65536) (hH : ∀ k c, H k = some c → c < 16) (h6 : ∀ k, k < 16 → mI σ 106 k = if A k then nI (U k) else 0) (h7 : ∀ k, k < 16 → mI σ 107 k = if A k then bsI (H k) else -1) : ∃ r, f_Mo_doesWithout N σ (nI S) = some r ∧ ((r = 1 ∧ Sat A H U S) ∨ (r = 0 ∧ ¬ Sat A H U S)) := by
  unfold f_Mo_doesWithout
  refine loopR (L := fun z (x : Int32) => L_Mo_doesWithout_l2 N (nI S) σ z x) (P := fun i x => x = nI i ∧ ∀ k, k < i → A k = true → hld H S k = true ∨ sbs (U k) S) (a := 0) 16 ?_ ?_ (by omega) ⟨rfl, fun k hk => absurd hk (Nat.not_lt_zero k)⟩
  · rintro z i x hi ⟨rfl, h2⟩
    have g := inb_j hi (show 16 < 2 ^ 31 by decide)
    have hc : (nI i).toNatClampNeg = i := nI_clamp (by omega)
    have hgo : (A i = true → hld H S i = true ∨ sbs (U i) S) → ∀ k, k < i + 1 → A k = true → hld H S k = true ∨ sbs (U k) S := fun h k hk => by
      rcases (show k < i ∨ k = i by omega) with q | rfl
      · exact h2 k q
      · exact h
    show (∃ r, B_Mo_doesWithout_l2 N (nI S) σ (L_Mo_doesWithout_l2 N (nI S) σ z) (nI i) = some r ∧ _) ∨ ∃ a' : Int32, B_Mo_doesWithout_l2 N (nI S) σ (L_Mo_doesWithout_l2 N (nI S) σ z) (nI i) = L_Mo_doesWithout_l2 N (nI S) σ z a' ∧ _
    unfold B_Mo_doesWithout_l2
    rw [if_neg (show ¬ ((16 : Int32) ≤ nI i) from nI_ge (b := 16) hi (by decide))]
    simp only [grd_t g, hc, letv, nI_1]
    rw [h6 i hi, h7 i hi]
    cases hA : A i with
    | false =>
      simp only [if_neg f10, if_true, bnd1_s, if_neg (show ¬ (1 = 0) by decide)]
      right
      rw [if_pos (show (0 : Int32) &&& (nI S ^^^ (-1)) = 0 from (andn0 (w := 0) (by decide)).mpr (fun j h => by rw [Nat.zero_testBit] at h; cases h))]
      exact ⟨_, rfl, rfl, hgo (fun h => by rw [hA] at h; cases h)⟩
    | true =>
      simp only [if_true]
      -- the test of the bits
      have htest : hld H S i = false → ((∃ r, (if nI (U i) &&& (nI S ^^^ (-1)) = 0 then L_Mo_doesWithout_l2 N (nI S) σ z (nI (i + 1)) else some 0) = some r ∧ ((r = 1 ∧ Sat A H U S) ∨ (r = 0 ∧ ¬ Sat A H U S))) ∨ ∃ a' : Int32, (if nI (U i) &&& (nI S ^^^ (-1)) = 0 then L_Mo_doesWithout_l2 N (nI S) σ z (nI (i + 1)) else some 0) = L_Mo_doesWithout_l2 N (nI S) σ z a' ∧ (a' = nI (i + 1) ∧ ∀ k, k < i + 1 → A k = true → hld H S k = true ∨ sbs (U k) S)) := fun hf => by
        by_cases c : nI (U i) &&& (nI S ^^^ (-1)) = 0
        · rw [if_pos c]
          exact Or.inr ⟨_, rfl, rfl, hgo (fun _ => Or.inr ((andn0 (hU i hi)).mp c))⟩
        · rw [if_neg c]
          refine Or.inl ⟨0, rfl, Or.inr ⟨rfl, fun hs => ?_⟩⟩
          rcases hs i hi hA with q | q
          · rw [hf] at q; cases q
          · exact c ((andn0 (hU i hi)).mpr q)
      cases hH' : H i with
      | none =>
        rw [if_pos (show bsI none = -1 from rfl)]
        simp only [bnd1_s, if_neg (show ¬ (1 = 0) by decide), if_true]
        exact htest (by unfold hld; rw [hH'])
      | some c =>
        have hc16 := hH i c hH'
        rw [if_neg (show ¬ bsI (some c) = -1 from nIm1 (by omega)), show f_Mo_has (nI S) (bsI (some c)) = _ from mo_has (nI S) c, stands_bit (by omega) (by omega)]
        simp only [bnd1_s]
        cases hb : S.testBit c with
        | true =>
          simp only [if_true, if_neg ne10, bnd1_s, if_neg (show ¬ (1 = 0) by decide)]
          exact htest (by unfold hld; rw [hH']; simp [hb])
        | false =>
          simp only [if_neg f10, if_true, bnd1_s, if_neg (show ¬ (2 = 0) by decide), if_neg (show ¬ (2 = 1) by decide)]
          exact Or.inr ⟨_, rfl, rfl, hgo (fun _ => Or.inl (by unfold hld; rw [hH']; simp [hb]))⟩
  · rintro z x ⟨rfl, h2⟩
    refine ⟨1, ?_, Or.inl ⟨rfl, h2⟩⟩
    show B_Mo_doesWithout_l2 N (nI S) σ _ (nI 16) = _
    unfold B_Mo_doesWithout_l2
    rw [if_pos (by decide)]
    rfl
def tbI : Option Nat → Int32
  | none => -1
  | some b => nI b
theorem mo_downL {N : Nat} {σ : Mem} {A : Nat → Bool} {H : Nat → Option Nat} {U : Nat → Nat} {n st : Nat} {P : Nat → Bool} (hN : 70000 ≤ N) (hn : n ≤ 16) (e0 : mI σ 65 0 = nI n) (e1 : mI σ 65 1 = nI st) (hP : ∀ S, P S = true ↔ (sbs S st ∧ Sat A H U S)) (hU : ∀ k, k < 16 → U k < 65536) (hH : ∀ k c, H k = some c → c < 16) (h6 : ∀ k, k < 16 → mI σ 106 k = if A k then nI (U k) else 0) (h7 : ∀ k, k < 16 → mI σ 107 k = if A k then bsI (H k) else -1) : L_Mo_takenDown_l8 N N (-1) 0 σ = some (tbI (tbS P (2 ^ n)), σ) := by
  have h16 : (2 : Nat) ^ n ≤ 65536 := Nat.pow_le_pow_right (n := 2) (by decide) hn
  refine loopS (L := fun z (x : Int32 × Int32 × Mem) => L_Mo_takenDown_l8 N z x.1 x.2.1 x.2.2) (fun i => (tbI (tbS P i), nI i, σ)) _ (2 ^ n) (fun z i hi => ?_) (fun z => ?_) (by omega)
  · show B_Mo_takenDown_l8 N (L_Mo_takenDown_l8 N z) (tbI (tbS P i)) (nI i) σ = L_Mo_takenDown_l8 N z (tbI (tbS P (i + 1))) (nI (i + 1)) σ
    have hok := tbS_ok P i
    obtain ⟨r, r1, r2⟩ := mo_doesWithout (N := N) (σ := σ) (S := i) (by omega) (by omega) hU hH h6 h7
    unfold B_Mo_takenDown_l8
    rw [e0, one_shl n (by omega), if_neg (nI_ge hi (by omega)), e1, r1, mo_bits (by omega) (show i < 65536 by omega), tbS_succ]
    simp only [bnd1_s, letv, nI_1]
    have hPi : P i = true ↔ (sbs i st ∧ r ≠ 0) := by
      rw [hP i]
      rcases r2 with ⟨q1, q2⟩ | ⟨q1, q2⟩
      · rw [q1]; simp [q2]
      · rw [q1]; simp [q2]
    by_cases c1 : nI i &&& (nI st ^^^ (-1)) = 0
    · have hs := (andn0 (show i < 65536 by omega)).mp c1
      rw [if_pos c1]
      have hPr : P i = true ↔ r ≠ 0 := by rw [hPi]; simp [hs]
      cases ht : tbS P i with
      | none =>
        show bnd1 (bnd1 (if (-1 : Int32) = -1 then some 1 else _) _) _ = _
        rw [if_pos rfl]
        simp only [bnd1_s, if_neg (show ¬ (1 = 0) by decide)]
        by_cases c2 : r = 0
        · rw [if_pos c2, if_neg (fun z => hPr.mp z c2)]; rfl
        · rw [if_neg c2, if_pos (hPr.mpr c2)]; rfl
      | some b =>
        obtain ⟨b1, -⟩ := hok b ht
        have l1 := pcR_le b
        have l2 := pcR_le i
        show bnd1 (bnd1 (if nI b = -1 then some 1 else bnd1 (f_Mo_bits N (nI b)) fun r39 => if r39 ≤ nI (pcR i 16) then some 0 else some 1) _) _ = _
        rw [if_neg (nIm1 (by omega)), mo_bits (by omega) (by omega)]
        simp only [bnd1_s]
        by_cases c3 : pcR i 16 < pcR b 16
        · rw [if_neg (nI_ge c3 (by omega))]
          simp only [bnd1_s, if_neg (show ¬ (1 = 0) by decide)]
          by_cases c2 : r = 0
          · rw [if_pos c2, if_neg (fun z => hPr.mp z.2 c2)]; rfl
          · rw [if_neg c2, if_pos ⟨c3, hPr.mpr c2⟩]; rfl
        · rw [if_pos (nI_le (by omega) (by omega)), if_neg (show ¬ (pcR i 16 < pcR b 16 ∧ P i = true) from fun z => c3 z.1)]
          rfl
    · have hs : P i = false := by
        cases hq : P i with
        | false => rfl
        | true => exact absurd ((andn0 (show i < 65536 by omega)).mpr ((hPi.mp hq).1)) c1
      rw [if_neg c1, hs]
      simp only [bnd1_s, if_true]
      cases ht : tbS P i with
      | none => rfl
      | some b =>
        simp only
        rw [if_neg (fun z => by cases z.2)]
  · show B_Mo_takenDown_l8 N _ _ (nI (2 ^ n)) σ = _
    unfold B_Mo_takenDown_l8
    rw [e0, one_shl n (by omega), if_pos (nI_le (Nat.le_refl _) (by omega))]
theorem st_takenDown {N : Nat} (hN : 70000 ≤ N) : St_takenDown N := by
  intro σ hI
  unfold f_Sh_takenDown f_Mo_takenDown
  obtain ⟨σ1, t1, I1, R1⟩ := today_ok hN hI
  obtain ⟨n, s, hn, hs, e1, e2, e3, e4, hr⟩ := reach_ok I1 R1
  obtain ⟨σ2, p2, v2⟩ := mo_laysUnder hN I1 R1
  have F2 := fm_Mo_laysUnder p2
  have h16 : (2 : Nat) ^ n ≤ 65536 := Nat.pow_le_pow_right (n := 2) (by decide) hn
  have hUo := fun k (hk : k < 16) => uW_ok I1 R1 hn hr hk
  have hU : ∀ k, k < 16 → uW σ1 k < 2 ^ n := fun k hk => (hUo k hk).1
  obtain ⟨P, hP⟩ : ∃ P : Nat → Bool, ∀ S, P S = true ↔ (sbs S s ∧ Sat (aW σ1) (hsW N σ1) (uW σ1) S) := ⟨fun S => @decide _ (Classical.propDecidable (sbs S s ∧ Sat (aW σ1) (hsW N σ1) (uW σ1) S)), fun S => ⟨fun h => @of_decide_eq_true _ (Classical.propDecidable _) h, fun h => @decide_eq_true _ (Classical.propDecidable _) h⟩⟩
  have hm := mo_downL (N := N) (σ := σ2) (A := aW σ1) (H := hsW N σ1) (U := uW σ1) (n := n) (st := s) (P := P) hN hn ((F2.I 65 0 (by decide) (by simp)).trans e2) ((F2.I 65 1 (by decide) (by simp)).trans e4) hP (fun k hk => by have := hU k hk; omega) (fun k c hc => (hsW_ok (by omega) I1 k).2.2 c hc) (fun k hk => by rw [(v2 k hk).1, (hUo k hk).2.1]) (fun k hk => (v2 k hk).2)
  have hst : Sat (aW σ1) (hsW N σ1) (uW σ1) s := fun k hk _ => Or.inr (hUo k hk).2.2
  have hG : tbS P (2 ^ n) = some (gAll (aW σ1) (hsW N σ1) (uW σ1) 17) := tbS_G ((hP _).mpr ⟨gAll_in _ _ _ hst 17, gAll_sat _ _ _ hn hU⟩) (fun S _ hS => gAll_in _ _ _ ((hP S).mp hS).2 17) (2 ^ n) h16 (gAll_lt _ _ _ hU 17)
  refine ⟨nI (gAll (aW σ1) (hsW N σ1) (uW σ1) 17), σ1, σ2, ?_, ?_, I1.k (F2.keeps (by decide))⟩
  · rw [t1]
    simp only [bnd1_s]
    rw [wi_inTheWay (by omega) I1 R1]
    rfl
  · rw [p2]
    simp only [bnd1_s]
    rw [hm, hG]
    rfl
