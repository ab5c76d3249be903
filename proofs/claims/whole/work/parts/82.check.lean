-- ===== check, odds, led =====
def tnR (g : Nat → Int32) (x : Nat) : Nat → Int32
  | 0 => 0
  | k + 1 => (tnR g x k <<< (8 &&& 31)) ||| g (4 * x + k)
theorem tnR_congr {g g' : Nat → Int32} {x : Nat} : ∀ k, (∀ j, j < k → g (4 * x + j) = g' (4 * x + j)) → tnR g x k = tnR g' x k := by
  intro k
  induction k with
  | zero => intro _; rfl
  | succ k ih =>
    intro h
    unfold tnR
    rw [ih (fun j hj => h j (by omega)), h k (by omega)]
theorem ta_intAt {N : Nat} {σ : Mem} {u x : Nat} (hN : 100 < N) (hu : u ≤ 260) (eu : mI σ 1 1 = nI u) (hx : 4 * x + 4 ≤ u) : f_Ta_intAt N σ (nI x) = some (tnR (fun j => mI σ 2 j &&& 255) x 4) := by
  unfold f_Ta_intAt
  refine loopS (L := fun z (a : Int32 × Int32) => L_Ta_intAt_l4 N (nI x) σ z a.1 a.2) (fun i => (tnR (fun j => mI σ 2 j &&& 255) x i, nI i)) _ 4 (fun z i hi => ?_) (fun z => ?_) (by omega)
  · show B_Ta_intAt_l4 N (nI x) σ (L_Ta_intAt_l4 N (nI x) σ z) _ (nI i) = L_Ta_intAt_l4 N (nI x) σ z _ (nI (i + 1))
    have e : 4 * nI x + nI i = nI (4 * x + i) := by
      show nI 4 * nI x + nI i = _
      rw [pk_mul, nI_add]
    unfold B_Ta_intAt_l4 f_Ta_byteAt
    rw [if_neg (show ¬ ((4 : Int32) ≤ nI i) from nI_ge (b := 4) hi (by decide)), e, if_neg (nI_pos (by omega)), eu, if_neg (nI_ge (by omega) (by omega)), grd_t (inb_j (by omega) (by decide)), nI_clamp (by omega)]
    simp only [bnd1_s, letv, nI_1]
    rfl
  · show B_Ta_intAt_l4 N (nI x) σ (L_Ta_intAt_l4 N (nI x) σ z) _ (nI 4) = _
    unfold B_Ta_intAt_l4
    rw [if_pos (by decide)]
theorem mo_tapeNumber {N : Nat} {σ : Mem} {x : Nat} (hN : 100 < N) (hx : 4 * x + 4 ≤ 260) : f_Mo_tapeNumber N σ (nI x) = some (tnR (fun j => mI σ 72 j &&& 255) x 4) := by
  unfold f_Mo_tapeNumber
  simp only [letv]
  have e : 4 * nI x = nI (4 * x) := by
    show nI 4 * nI x = _
    rw [pk_mul]
  rw [e]
  refine loopS (L := fun z (a : Int32 × Int32) => L_Mo_tapeNumber_l6 N (nI x) σ z a.1 a.2) (fun i => (tnR (fun j => mI σ 72 j &&& 255) x i, nI (4 * x + i))) _ 4 (fun z i hi => ?_) (fun z => ?_) (by omega)
  · show B_Mo_tapeNumber_l6 N (nI x) σ (L_Mo_tapeNumber_l6 N (nI x) σ z) _ (nI (4 * x + i)) = L_Mo_tapeNumber_l6 N (nI x) σ z _ (nI (4 * x + i + 1))
    unfold B_Mo_tapeNumber_l6
    rw [e, show nI (4 * x) + 4 = nI (4 * x + 4) from nI_add (4 * x) 4, if_neg (nI_ge (by omega) (by omega)), grd_t (inb_j (by omega) (by decide)), nI_clamp (by omega)]
    simp only [letv, nI_1]
    rfl
  · show B_Mo_tapeNumber_l6 N (nI x) σ (L_Mo_tapeNumber_l6 N (nI x) σ z) _ (nI (4 * x + 4)) = _
    unfold B_Mo_tapeNumber_l6
    rw [e, show nI (4 * x) + 4 = nI (4 * x + 4) from nI_add (4 * x) 4, if_pos (nI_le (by omega) (by omega))]
theorem and255 {b : Nat} (h : b < 256) : nI b &&& 255 = nI b := by
  show nI b &&& nI (2 ^ 8 - 1) = _
  rw [and_nI, Nat.and_two_pow_sub_one_eq_mod, Nat.mod_eq_of_lt (by omega)]
/-- the first of n places from d on where B fails -/
def fstN (B : Nat → Bool) (d n : Nat) : Nat → Option Nat
  | 0 => none
  | m + 1 => if B d then fstN B (d + 1) n m else some d
theorem st_check {N : Nat} (hN : 70000 ≤ N) : St_check N := by
  intro σ a1 a2 a3 hI
  unfold f_Sh_check f_Mo_check
  rw [mo_isHour, sh_inTown]
  rcases hour_cases a1 with h | ⟨h, hr, hh, rfl⟩
  · exact ⟨-2, σ, σ, by rw [h]; rfl, by rw [h]; rfl, hI⟩
  rcases in_casesB a2 11 (by decide) with ⟨g, g'⟩ | ⟨g, g1, g2, y, hy, rfl⟩
  · have g : f_Mo_in a2 0 11 = some 0 := g
    have hT : inT 0 a2 = false := by
      unfold inT
      rcases g' with g' | ⟨g', g2⟩
      · simp [g']
      · have : (12 : Int32) ≤ a2 := (le_succ (n := 11) (by decide) a2).mpr (Int32.not_le.mp g2)
        simp [this]
    refine ⟨-2, σ, σ, ?_, ?_, hI⟩
    · rw [h, hT]; rfl
    · rw [h, g]; rfl
  have g : f_Mo_in (nI y) 0 11 = some 1 := g
  have hT : inT 0 (nI y) = true := by
    unfold inT
    have : ¬ (12 : Int32) ≤ nI y := nI_ge (b := 12) (by omega) (by decide)
    simp [this, g1]
  rcases in_casesB a3 12 (by decide) with ⟨k, k'⟩ | ⟨k, k1, k2, n, hn, rfl⟩
  · have k : f_Mo_in a3 0 12 = some 0 := k
    refine ⟨-2, σ, σ, ?_, ?_, hI⟩
    · rw [h, hT]
      simp only [bnd1_s, if_neg ne10, if_true]
      rcases k' with k' | ⟨k', k2⟩
      · rw [if_pos k']
      · rw [if_neg k', if_pos (show (12 : Int32) < a3 from Int32.not_le.mp k2)]
    · rw [h, g, k]; rfl
  have k : f_Mo_in (nI n) 0 12 = some 1 := k
  have hI' := hI
  obtain ⟨-, -, ⟨u, hu, u1, u2, u3⟩, -⟩ := hI'
  unfold f_Ta_length f_Ta_empty
  rw [h, g, k]
  simp only [bnd1_s, if_neg ne10, hT, if_true, letv]
  rw [if_neg k1, if_neg (show ¬ (12 : Int32) < nI n from Int32.not_lt.mpr k2), u1, show nI n * 4 = nI (n * 4) from pk_mul n 4]
  by_cases c : n * 4 ≤ u
  · rw [if_pos (nI_le c (by omega))]
    obtain ⟨σ1, t1, I1, R1⟩ := today_ok hN hI
    have F1 := fm_Sh_today t1
    have F1e : Fr [8, 9, 34, 35, 36, 37, 38, 39] [(1, 1), (33, 6), (33, 9)] σ (sI σ1 1 1 0) := (F1.mono (fun _ z => z) (by decide)).fI rfl (by decide)
    have FE : Fr [] [(1, 1), (65, 11)] σ1 (sI (sI σ1 1 1 0) 65 11 0) := ((Fr.rf _ _ σ1).fI (σ2 := sI σ1 1 1 0) rfl (by decide)).fI rfl (by decide)
    have I1e : Inv N (sI (sI σ1 1 1 0) 65 11 0) := by
      obtain ⟨k0, k1, k2, k3, k4, k5, k6⟩ := I1
      refine ⟨k0.k (FE.keeps (by decide)), k1.k (FE.keeps (by decide)), ⟨0, by decide, ?_, ?_, fun j hj => absurd hj (Nat.not_lt_zero j)⟩, k3.k (FE.keeps (by decide)), k4.k (FE.keeps (by decide)), k5.k (FE.keeps (by decide)), k6.k (FE.keeps (by decide))⟩
      · rw [sI_n _ _ (by decide), sI_s]; rfl
      · rw [sI_s]; rfl
    obtain ⟨σ2, p2, D2, I2, R2, F2⟩ := mo_laysDay hN I1e (R1.k (FE.keeps (by decide)))
    have FA2 : Fr [84, 85, 86, 87, 88] [(1, 1), (65, 11), (65, 37)] σ1 σ2 := (FE.mono (by decide) (by decide)).c F2 (by decide) (by decide)
    have hw : ∀ h sq, who σ2 h sq = who σ1 h sq := who_k (FA2.rowI 38 (by decide) (by decide)) (FA2.rowI 39 (by decide) (by decide))
    have eu1 : mI σ1 1 1 = nI u := (F1.I 1 1 (by decide) (by decide)).trans u1
    have r2 : mI σ1 2 = mI σ 2 := F1.rowI 2 (by decide) (by decide)
    have r72 : mI σ2 72 = mI σ 72 := (FA2.rowI 72 (by decide) (by decide)).trans (F1.rowI 72 (by decide) (by decide))
    have htn : ∀ x, x < n → tnR (fun j => mI σ2 72 j &&& 255) x 4 = tnR (fun j => mI σ1 2 j &&& 255) x 4 := fun x hx => by
      refine tnR_congr 4 (fun j hj => ?_)
      obtain ⟨b, hb, b1, b2⟩ := u3 (4 * x + j) (by omega)
      show mI σ2 72 _ &&& 255 = mI σ1 2 _ &&& 255
      rw [r72, r2, b2, b1, and255 hb]
    have ix : ∀ x, 12 * nI y + nI x = nI (12 * y + x) := fun x => by
      show nI 12 * nI y + nI x = _
      rw [pk_mul, nI_add]
    -- where it fails first
    obtain ⟨B, hB⟩ : ∃ B : Nat → Bool, B = fun x => decide (tnR (fun j => mI σ1 2 j &&& 255) x 4 = bitsW (who σ1 hr (12 * y + x))) := ⟨_, rfl⟩
    obtain ⟨r, hr1⟩ : ∃ r : Int32, r = (match fstN B 0 n n with
      | none => -1
      | some x => nI x) := ⟨_, rfl⟩
    have hC : ∀ m K d, d + m = n → m + 1 < K → L_Sh_check_l53 N (nI hr) (nI y) (nI n) σ1 K (-1) (nI d) = some (match fstN B d n m with
      | none => -1
      | some x => nI x) := by
      intro m
      induction m with
      | zero =>
        intro K d e hK
        obtain ⟨z, rfl⟩ : ∃ z, K = z + 1 := ⟨K - 1, by omega⟩
        show B_Sh_check_l53 _ _ _ _ _ _ _ _ = _
        unfold B_Sh_check_l53
        rw [if_pos (nI_le (by omega) (by omega))]
        rfl
      | succ m ih =>
        intro K d e hK
        obtain ⟨z, rfl⟩ : ∃ z, K = z + 1 := ⟨K - 1, by omega⟩
        obtain ⟨z, rfl⟩ : ∃ w, z = w + 1 := ⟨z - 1, by omega⟩
        show B_Sh_check_l53 _ _ _ _ _ _ _ _ = _
        unfold B_Sh_check_l53
        rw [if_neg (nI_ge (by omega) (by omega)), if_pos rfl, ta_intAt (by omega) hu eu1 (by omega), ix, da_whoCasts hh (by omega)]
        simp only [bnd1_s]
        rw [bits_c I1 R1 hh (by omega)]
        simp only [bnd1_s, letv, nI_1]
        unfold fstN
        by_cases cb : tnR (fun j => mI σ1 2 j &&& 255) d 4 = bitsW (who σ1 hr (12 * y + d))
        · rw [if_pos cb, hB]
          simp only [bnd1_s, cb, decide_true, if_true]
          rw [← hB]
          exact ih (z + 1) (d + 1) (by omega) (by omega)
        · rw [if_neg cb, hB]
          simp only [bnd1_s, cb, decide_false, if_neg f10]
          show B_Sh_check_l53 _ _ _ _ _ _ _ _ = _
          unfold B_Sh_check_l53
          by_cases q : n ≤ d + 1
          · rw [if_pos (nI_le q (by omega))]
          · rw [if_neg (nI_ge (by omega) (by omega)), if_neg (nIm1 (by omega))]
    have hM : ∀ m K d, d + m = n → m < K → L_Mo_check_l52 N (nI hr) (nI y) (nI n) K (nI d) σ2 = some (match fstN B d n m with
      | none => -1
      | some x => nI x, σ2) := by
      intro m
      induction m with
      | zero =>
        intro K d e hK
        obtain ⟨z, rfl⟩ : ∃ z, K = z + 1 := ⟨K - 1, by omega⟩
        show B_Mo_check_l52 _ _ _ _ _ _ _ = _
        unfold B_Mo_check_l52
        rw [if_pos (nI_le (by omega) (by omega))]
        rfl
      | succ m ih =>
        intro K d e hK
        obtain ⟨z, rfl⟩ : ∃ z, K = z + 1 := ⟨K - 1, by omega⟩
        show B_Mo_check_l52 _ _ _ _ _ _ _ = _
        unfold B_Mo_check_l52
        rw [if_neg (nI_ge (by omega) (by omega)), mo_tapeNumber (by omega) (by omega), ix, mo_whoOn D2 hh (by omega)]
        simp only [bnd1_s]
        rw [bits_m (by omega) I2 R2 hh (by omega)]
        simp only [bnd1_s, letv, nI_1]
        rw [hw, htn d (by omega)]
        unfold fstN
        by_cases cb : tnR (fun j => mI σ1 2 j &&& 255) d 4 = bitsW (who σ1 hr (12 * y + d))
        · rw [if_pos cb, hB]
          simp only [cb, decide_true, if_true]
          rw [← hB]
          exact ih z (d + 1) (by omega) (by omega)
        · rw [if_neg cb, hB]
          simp only [cb, decide_false, if_neg f10]
    refine ⟨r, sI σ1 1 1 0, σ2, ?_, ?_, I2⟩
    · rw [t1]
      simp only [bnd1_s]
      rw [show L_Sh_check_l53 N (nI hr) (nI y) (nI n) σ1 N (-1) 0 = _ from hC n N 0 (by omega) (by omega)]
      simp only [bnd1_s]
      rw [hr1]
    · have e11 : mI (sI σ1 1 1 0) 65 11 = nI u := (F1e.I 65 11 (by decide) (by decide)).trans u2
      have ed : nI u / 4 = nI (u / 4) := pk_div (d := 4) (by omega) (by decide) (by decide)
      rw [e11, ed, if_pos (nI_le (by omega) (by omega)), p2]
      simp only [bnd1_s]
      rw [show L_Mo_check_l52 N (nI hr) (nI y) (nI n) N 0 σ2 = _ from hM n N 0 (by omega) (by omega), hr1]
  · rw [if_neg (nI_ge (by omega) (by omega))]
    have ed : nI u / 4 = nI (u / 4) := pk_div (d := 4) (by omega) (by decide) (by decide)
    refine ⟨-2, σ, σ, rfl, ?_, hI⟩
    rw [u2, ed, if_neg (nI_ge (by omega) (by omega))]
-- ===== common divisors =====
theorem lg_cmp0 {n : Nat} (h : n < 2 ^ 63) : (lg_cmp (lN n) 0 = 0) ↔ n = 0 := by
  unfold lg_cmp
  have e : (lN n = 0) ↔ n = 0 := pk_lEQ (b := 0) h (by decide)
  have g : (lN n > 0) ↔ 0 < n := pk_lLT (a := 0) (by decide) h
  by_cases c : n = 0
  · subst c
    exact ⟨fun _ => rfl, fun _ => by decide⟩
  · rw [if_pos (g.mpr (by omega))]
    exact ⟨fun z => absurd z (by decide), fun z => absurd z c⟩
theorem mod_half {b r : Nat} (hr : 0 < r) (h : r < b) : b % r < b - b % r := by
  have h1 := Nat.mod_lt b hr
  have h2 := Nat.div_add_mod b r
  have h3 : 1 ≤ b / r := Nat.div_pos (by omega) hr
  have h4 : r * 1 ≤ r * (b / r) := Nat.mul_le_mul_left r h3
  omega
theorem gcd_stp (a b : Nat) : Nat.gcd a b = Nat.gcd b (a % b) := by
  rw [Nat.gcd_comm a b, Nat.gcd_rec b a, Nat.gcd_comm]
theorem sh_gcdL {N : Nat} : ∀ (m K s a b : Nat), a < 2 ^ 63 → b < 2 ^ m → m ≤ 63 → s + 2 * m + 1 ≤ 200 → 2 * m + 1 < K → L_Sh_commonDivisor_l9 N K (lN a) (lN b) (nI s) = some (lN (Nat.gcd a b)) := by
  intro m
  induction m with
  | zero =>
    intro K s a b ha hb hm hs hK
    have : b = 0 := by omega
    subst this
    obtain ⟨z, rfl⟩ : ∃ z, K = z + 1 := ⟨K - 1, by omega⟩
    show B_Sh_commonDivisor_l9 _ _ _ _ _ = _
    unfold B_Sh_commonDivisor_l9
    rw [if_neg (show ¬ (200 : Int32) ≤ nI s from nI_ge (b := 200) (by omega) (by decide)), if_pos ((lg_cmp0 (by decide)).mpr rfl), Nat.gcd_zero_right]
  | succ m ih =>
    intro K s a b ha hb hm hs hK
    have hpow : (2 : Nat) ^ (m + 1) ≤ 2 ^ 63 := Nat.pow_le_pow_right (by decide) hm
    have hp2 : (2 : Nat) ^ (m + 1) = 2 * 2 ^ m := by rw [Nat.pow_succ]; omega
    obtain ⟨z, rfl⟩ : ∃ z, K = z + 1 := ⟨K - 1, by omega⟩
    obtain ⟨z, rfl⟩ : ∃ w, z = w + 1 := ⟨z - 1, by omega⟩
    show B_Sh_commonDivisor_l9 _ _ _ _ _ = _
    unfold B_Sh_commonDivisor_l9
    rw [if_neg (show ¬ (200 : Int32) ≤ nI s from nI_ge (b := 200) (by omega) (by decide))]
    by_cases c : b = 0
    · subst c
      rw [if_pos ((lg_cmp0 (by decide)).mpr rfl), Nat.gcd_zero_right]
    · have n0 : ¬ lN b = 0 := fun z => c ((pk_lEQ (b := 0) (by omega) (by decide)).mp z)
      rw [if_neg (fun z => c ((lg_cmp0 (by omega)).mp z)), grd_t (by simp [n0])]
      simp only [letv, nI_1]
      rw [pk_lRem ha (by omega) (by omega)]
      have hr := Nat.mod_lt a (show 0 < b by omega)
      rw [gcd_stp a b]
      show B_Sh_commonDivisor_l9 _ _ _ _ _ = _
      unfold B_Sh_commonDivisor_l9
      rw [if_neg (show ¬ (200 : Int32) ≤ nI (s + 1) from nI_ge (b := 200) (by omega) (by decide))]
      by_cases c2 : a % b = 0
      · rw [c2, if_pos ((lg_cmp0 (by decide)).mpr rfl), Nat.gcd_zero_right]
      · have n1 : ¬ lN (a % b) = 0 := fun z => c2 ((pk_lEQ (b := 0) (by omega) (by decide)).mp z)
        rw [if_neg (fun z => c2 ((lg_cmp0 (by omega)).mp z)), grd_t (by simp [n1])]
        simp only [letv, nI_1]
        rw [pk_lRem (by omega) (by omega) (by omega), gcd_stp b (a % b)]
        have hh := mod_half (show 0 < a % b by omega) hr
        exact ih z (s + 1 + 1) (a % b) (b % (a % b)) (by omega) (by omega) (by omega) (by omega) (by omega)
theorem mo_gcdL {N : Nat} : ∀ (m K a b : Nat), a < 2 ^ 63 → b < 2 ^ m → m ≤ 63 → 2 * m + 1 < K → L_Mo_gcd_l6 N K (lN a) (lN b) = some (lN (Nat.gcd a b)) := by
  intro m
  induction m with
  | zero =>
    intro K a b ha hb hm hK
    have : b = 0 := by omega
    subst this
    obtain ⟨z, rfl⟩ : ∃ z, K = z + 1 := ⟨K - 1, by omega⟩
    show B_Mo_gcd_l6 _ _ _ _ = _
    unfold B_Mo_gcd_l6
    rw [if_pos ((lg_cmp0 (by decide)).mpr rfl), Nat.gcd_zero_right]
  | succ m ih =>
    intro K a b ha hb hm hK
    have hpow : (2 : Nat) ^ (m + 1) ≤ 2 ^ 63 := Nat.pow_le_pow_right (by decide) hm
    have hp2 : (2 : Nat) ^ (m + 1) = 2 * 2 ^ m := by rw [Nat.pow_succ]; omega
    obtain ⟨z, rfl⟩ : ∃ z, K = z + 1 := ⟨K - 1, by omega⟩
    obtain ⟨z, rfl⟩ : ∃ w, z = w + 1 := ⟨z - 1, by omega⟩
    show B_Mo_gcd_l6 _ _ _ _ = _
    unfold B_Mo_gcd_l6
    by_cases c : b = 0
    · subst c
      rw [if_pos ((lg_cmp0 (by decide)).mpr rfl), Nat.gcd_zero_right]
    · have n0 : ¬ lN b = 0 := fun z => c ((pk_lEQ (b := 0) (by omega) (by decide)).mp z)
      rw [if_neg (fun z => c ((lg_cmp0 (by omega)).mp z)), grd_t (by simp [n0])]
      simp only [letv]
      rw [pk_lRem ha (by omega) (by omega)]
      have hr := Nat.mod_lt a (show 0 < b by omega)
      rw [gcd_stp a b]
      show B_Mo_gcd_l6 _ _ _ _ = _
      unfold B_Mo_gcd_l6
      by_cases c2 : a % b = 0
      · rw [c2, if_pos ((lg_cmp0 (by decide)).mpr rfl), Nat.gcd_zero_right]
      · have n1 : ¬ lN (a % b) = 0 := fun z => c2 ((pk_lEQ (b := 0) (by omega) (by decide)).mp z)
        rw [if_neg (fun z => c2 ((lg_cmp0 (by omega)).mp z)), grd_t (by simp [n1])]
        simp only [letv]
        rw [pk_lRem (by omega) (by omega) (by omega), gcd_stp b (a % b)]
        have hh := mod_half (show 0 < a % b by omega) hr
        exact ih z (a % b) (b % (a % b)) (by omega) (by omega) (by omega) (by omega)
/-- both sides' way to the lowest terms -/
theorem lowest_eq {N a b : Nat} (hN : 1000 < N) (ha : a < 2 ^ 63) (hb : b < 2 ^ 63) (hb0 : 0 < b) (w : Int32) : f_Sh_lowest N (lN a) (lN b) w = some (if w = 0 then lN a / lN (Nat.gcd a b) else lN b / lN (Nat.gcd a b)) ∧ f_Mo_gcd N (lN a) (lN b) = some (lN (Nat.gcd a b)) ∧ ¬ lN (Nat.gcd a b) = 0 := by
  have hg : 0 < Nat.gcd a b := Nat.gcd_pos_of_pos_right _ hb0
  have hg2 : Nat.gcd a b ≤ b := Nat.gcd_le_right _ hb0
  have n0 : ¬ lN (Nat.gcd a b) = 0 := fun z => by
    have := (pk_lEQ (b := 0) (by omega) (by decide)).mp z
    omega
  have hm : f_Mo_gcd N (lN a) (lN b) = some (lN (Nat.gcd a b)) := mo_gcdL 63 N a b ha hb (by decide) (by omega)
  refine ⟨?_, hm, n0⟩
  unfold f_Sh_lowest f_Sh_commonDivisor
  rw [show L_Sh_commonDivisor_l9 N N (lN a) (lN b) 0 = _ from sh_gcdL 63 N 0 a b ha hb (by decide) (by decide) (by omega)]
  simp only [bnd1_s]
  rw [if_neg (fun z => by have := (lg_cmp0 (by omega)).mp z; omega), grd_t (by simp [n0]), grd_t (by simp [n0])]
  by_cases c : w = 0
  · rw [if_pos c, if_pos c]
  · rw [if_neg c, if_neg c]
/-- hours from f on, behind them t, at most m: both sides' tests -/
theorem hours_casesM (f t : Int32) (m : Nat) (hm : m ≤ 24) : (f_Sh_areHours f t (nI m) = some 0 ∧ (f_Mo_isHour f = some 0 ∨ (f_Mo_isHour f = some 1 ∧ f_Mo_in t (f + 1) 24 = some 0) ∨ (f_Mo_isHour f = some 1 ∧ f_Mo_in t (f + 1) 24 = some 1 ∧ nI m < t - f))) ∨ (f_Sh_areHours f t (nI m) = some 1 ∧ f_Mo_isHour f = some 1 ∧ f_Mo_in t (f + 1) 24 = some 1 ∧ ¬ nI m < t - f ∧ ∃ a b : Nat, a < b ∧ b ≤ 24 ∧ b - a ≤ m ∧ f = nI a ∧ t = nI b) := by
  rcases hours_cases f t with ⟨z1, z2⟩ | ⟨z1, z2, z3, a, b, hab, hb, rfl, rfl⟩
  · refine Or.inl ⟨?_, ?_⟩
    · unfold f_Sh_areHours at z1 ⊢
      by_cases c1 : f < 0
      · rw [if_pos c1]
      · rw [if_neg c1] at z1 ⊢
        by_cases c2 : t ≤ f
        · rw [if_pos c2]
        · rw [if_neg c2] at z1 ⊢
          by_cases c3 : (24 : Int32) < t
          · rw [if_pos c3]
          · rw [if_neg c3] at z1 ⊢
            by_cases c4 : (24 : Int32) < t - f
            · rw [if_pos]
              exact Int32.lt_of_le_of_lt (nI_le (b := 24) hm (by decide)) c4
            · rw [if_neg c4] at z1
              exact absurd z1 (by decide)
    · rcases z2 with z2 | z2
      · exact Or.inl z2
      · exact Or.inr (Or.inl z2)
  · have e1 : ¬ nI b ≤ nI a := nI_ge (by omega) (by omega)
    have e2 : ¬ (24 : Int32) < nI b := nI_nlt (a := 24) hb (by decide)
    have e3 : nI b - nI a = nI (b - a) := pk_sub (by omega)
    by_cases c : b - a ≤ m
    · have e4 : ¬ nI m < nI b - nI a := by rw [e3]; exact nI_nlt c (by omega)
      refine Or.inr ⟨?_, z2, z3, e4, a, b, hab, hb, c, rfl, rfl⟩
      unfold f_Sh_areHours
      rw [if_neg (nI_pos (by omega)), if_neg e1, if_neg e2, if_neg e4]
    · have e4 : nI m < nI b - nI a := by rw [e3]; exact nI_lt (by omega) (by omega)
      refine Or.inl ⟨?_, Or.inr (Or.inr ⟨z2, z3, e4⟩)⟩
      unfold f_Sh_areHours
      rw [if_neg (nI_pos (by omega)), if_neg e1, if_neg e2, if_pos e4]
/-- above and below the line, by the hours from a on -/
def odA (c : Nat → Nat) (u : Nat → Bool) (a : Nat) : Nat → Nat
  | 0 => 1
  | i + 1 => if u (a + i) then odA c u a i * (10 - c (a + i)) else odA c u a i
def odB (u : Nat → Bool) (a : Nat) : Nat → Nat
  | 0 => 1
  | i + 1 => if u (a + i) then odB u a i * 10 else odB u a i
theorem odA_succ (c : Nat → Nat) (u : Nat → Bool) (a i : Nat) : odA c u a (i + 1) = if u (a + i) then odA c u a i * (10 - c (a + i)) else odA c u a i := rfl
theorem odB_succ (u : Nat → Bool) (a i : Nat) : odB u a (i + 1) = if u (a + i) then odB u a i * 10 else odB u a i := rfl
theorem od_le (c : Nat → Nat) (u : Nat → Bool) (a : Nat) : ∀ i, odA c u a i ≤ 10 ^ i ∧ odB u a i ≤ 10 ^ i ∧ 0 < odB u a i := by
  intro i
  induction i with
  | zero => exact ⟨Nat.le_refl _, Nat.le_refl _, Nat.one_pos⟩
  | succ i ih =>
    obtain ⟨h1, h2, h3⟩ := ih
    have hp : 10 ^ (i + 1) = 10 ^ i * 10 := Nat.pow_succ ..
    unfold odA odB
    cases u (a + i) with
    | false =>
      simp only [if_neg f10]
      omega
    | true =>
      simp only [if_true]
      refine ⟨?_, by omega, by omega⟩
      rw [hp]
      exact Nat.mul_le_mul h1 (by omega)
theorem st_odds {N : Nat} (hN : 70000 ≤ N) : St_odds N := by
  intro σ a1 a2 a3 hI
  unfold f_Sh_odds f_Mo_odds
  rcases hours_casesM a1 a2 18 (by decide) with ⟨z1, z2⟩ | ⟨z1, z2, z3, z4, a, b, hab, hb, hd, rfl, rfl⟩
  · have z1 : f_Sh_areHours a1 a2 18 = some 0 := z1
    refine ⟨-1, σ, σ, by rw [z1]; rfl, ?_, hI⟩
    rcases z2 with z2 | ⟨z2, z3⟩ | ⟨z2, z3, z4⟩
    · rw [z2]; rfl
    · rw [z2, z3]; rfl
    · rw [z2, z3]
      simp only [bnd1_s, if_neg ne10]
      rw [if_pos (show (18 : Int32) < a2 - a1 from z4)]
  have z1 : f_Sh_areHours (nI a) (nI b) 18 = some 1 := z1
  rw [z1, z2, z3]
  simp only [bnd1_s, if_neg ne10]
  simp only [if_neg (show ¬ (18 : Int32) < nI b - nI a from z4)]
  rcases in_casesB a3 1 (by decide) with ⟨g, g'⟩ | ⟨g, g1, g2, w, hw, rfl⟩
  · have g : f_Mo_in a3 0 1 = some 0 := g
    refine ⟨-1, σ, σ, ?_, by rw [g]; rfl, hI⟩
    rcases g' with g' | ⟨g', g2⟩
    · rw [if_pos g']
    · rw [if_neg g', if_neg (show ¬ a3 ≤ 1 from g2)]
  have g : f_Mo_in (nI w) 0 1 = some 1 := g
  rw [if_neg g1, if_pos (show nI w ≤ 1 from g2), g]
  simp only [bnd1_s, if_neg ne10]
  obtain ⟨σ1, t1, I1, R1⟩ := today_ok hN hI
  obtain ⟨n, lt, Hs, Vs, ok, hc, hm, hS, hBB⟩ := I1.day R1
  obtain ⟨nt, hnt, e6, e0, e1, e2, -⟩ := I1.mtown
  obtain ⟨cf, hcf⟩ : ∃ cf : Nat → Nat, ∀ h, h < 24 → cf h ≤ 10 ∧ mI σ1 37 h = nI (cf h) := by
    refine ⟨fun h => (mI σ1 37 h).toNatClampNeg, fun h hh => ?_⟩
    obtain ⟨v, hv, ev⟩ := sval_in n lt Hs Vs 99 (hi := 10) (by decide) (fHour (nI h) (mI σ1 19 8))
    have e : mI σ1 37 h = nI v := (hS h hh).2.2.2.trans ev
    show (mI σ1 37 h).toNatClampNeg ≤ 10 ∧ mI σ1 37 h = nI (mI σ1 37 h).toNatClampNeg
    rw [e, nI_clamp (by omega)]
    exact ⟨hv, rfl⟩
  obtain ⟨u, hu⟩ : ∃ u : Nat → Bool, u = fun h => decide (mI σ1 34 h ≠ 0) := ⟨_, rfl⟩
  have e10 : ∀ h, h < 24 → (10 - mI σ1 37 h).toInt64 = lN (10 - cf h) := fun h hh => by
    obtain ⟨o1, o2⟩ := hcf h hh
    rw [o2, show (10 : Int32) - nI (cf h) = nI (10 - cf h) from pk_sub (a := 10) o1, nI_l (by omega)]
  obtain ⟨o1, o2, o3⟩ := od_le cf u a (b - a)
  have hp : (10 : Nat) ^ (b - a) ≤ 10 ^ 18 := Nat.pow_le_pow_right (by decide) hd
  obtain ⟨l1, l2, l3⟩ := lowest_eq (N := N) (a := odA cf u a (b - a)) (b := odB u a (b - a)) (by omega) (by omega) (by omega) o3 (nI w)
  have hC : L_Sh_odds_l38 N (nI b) (nI w) N 1 1 (nI a) σ1 = some ((if nI w = 0 then lN (odA cf u a (b - a)) / lN (Nat.gcd (odA cf u a (b - a)) (odB u a (b - a))) else lN (odB u a (b - a)) / lN (Nat.gcd (odA cf u a (b - a)) (odB u a (b - a)))), σ1) := by
    refine loopS (L := fun z (x : Int64 × Int64 × Int32 × Mem) => L_Sh_odds_l38 N (nI b) (nI w) z x.1 x.2.1 x.2.2.1 x.2.2.2) (fun i => (lN (odA cf u a i), lN (odB u a i), nI (a + i), σ1)) _ (b - a) (fun z i hi => ?_) (fun z => ?_) (by omega)
    · show B_Sh_odds_l38 N (nI b) (nI w) (L_Sh_odds_l38 N (nI b) (nI w) z) (lN (odA cf u a i)) (lN (odB u a i)) (nI (a + i)) σ1 = L_Sh_odds_l38 N (nI b) (nI w) z (lN (odA cf u a (i + 1))) (lN (odB u a (i + 1))) (nI (a + i + 1)) σ1
      have hai : a + i < 24 := by omega
      unfold B_Sh_odds_l38 f_Da_cloudAt
      rw [if_neg (nI_ge (by omega) (by omega)), da_isUp I1 R1 hai, hour_t hai]
      simp only [bnd1_s, if_neg ne10, letv, nI_1]
      rw [grd_t (inb_j hai (by decide)), nI_clamp (by omega)]
      simp only [bnd1_s]
      rw [e10 _ hai]
      rw [odA_succ, odB_succ, show u (a + i) = decide (mI σ1 34 (a + i) ≠ 0) by rw [hu]]
      by_cases c : mI σ1 34 (a + i) = 0
      · rw [if_pos c]
        simp only [bnd1_s, q2, c, ne_eq, not_true_eq_false, decide_false, if_neg f10]
      · rw [if_neg c]
        simp only [bnd1_s, q2, c, ne_eq, not_false_eq_true, decide_true, if_true]
        rw [lN_mul, show lN (odB u a i) * 10 = lN (odB u a i * 10) from lN_mul _ 10]
    · show B_Sh_odds_l38 N (nI b) (nI w) (L_Sh_odds_l38 N (nI b) (nI w) z) _ _ (nI (a + (b - a))) σ1 = _
      unfold B_Sh_odds_l38
      rw [if_pos (nI_le (by omega) (by omega)), l1]
      rfl
  obtain ⟨⟨x, y, s⟩, m1, m2, m3, m4⟩ : ∃ r, L_Mo_odds_l49 N (nI b) (nI w) N 1 1 (nI a) σ1 = some r ∧ r.1 = lN (odA cf u a (b - a)) ∧ r.2.1 = lN (odB u a (b - a)) ∧ Fr [84, 85] [] σ1 r.2.2 := by
    refine loopR (L := fun z (x : Int64 × Int64 × Int32 × Mem) => L_Mo_odds_l49 N (nI b) (nI w) z x.1 x.2.1 x.2.2.1 x.2.2.2) (P := fun i x => x.1 = lN (odA cf u a i) ∧ x.2.1 = lN (odB u a i) ∧ x.2.2.1 = nI (a + i) ∧ Fr [84, 85] [] σ1 x.2.2.2) (a := (1, 1, nI a, σ1)) (b - a) ?_ ?_ (by omega) ⟨rfl, rfl, rfl, Fr.rf _ _ _⟩
    · rintro z i ⟨x, y, h, s⟩ hi ⟨h1, h2, h3, h4⟩
      have hx : x = _ := h1
      have hy : y = _ := h2
      have hh : h = _ := h3
      subst hx; subst hy; subst hh
      change Fr _ _ σ1 s at h4
      have hai : a + i < 24 := by omega
      obtain ⟨⟨r1, s1⟩, p1, v1⟩ := mo_isUp (N := N) (σ := s) (by omega) ok (hm.k (h4.keeps (by decide))) (nI (a + i))
      change r1 = _ at v1
      have F1 := fm_Mo_isUp p1
      have h5 : Fr [84, 85] [] σ1 s1 := h4.t F1
      obtain ⟨⟨r2, s2⟩, p2, v2⟩ := mo_cloudsIn (N := N) (σ := s1) (by omega) ok (hm.k (h5.keeps (by decide))) (nI (a + i))
      change r2 = _ at v2
      have F2 := fm_Mo_cloudsIn p2
      have h6 : Fr [84, 85] [] σ1 s2 := h5.t F2
      rw [h4.I 65 2 (by decide) (by simp), e2, ← (hS _ hai).1] at v1
      rw [h5.I 65 2 (by decide) (by simp), e2, ← (hS _ hai).2.2.2] at v2
      right
      show ∃ a' : Int64 × Int64 × Int32 × Mem, B_Mo_odds_l49 N (nI b) (nI w) (L_Mo_odds_l49 N (nI b) (nI w) z) (lN (odA cf u a i)) (lN (odB u a i)) (nI (a + i)) s = L_Mo_odds_l49 N (nI b) (nI w) z a'.1 a'.2.1 a'.2.2.1 a'.2.2.2 ∧ _
      unfold B_Mo_odds_l49
      rw [if_neg (nI_ge (by omega) (by omega)), p1]
      simp only [bnd2_s]
      rw [p2]
      simp only [bnd2_s, letv, nI_1]
      rw [v1, v2, e10 _ hai]
      rw [odA_succ, odB_succ, show u (a + i) = decide (mI σ1 34 (a + i) ≠ 0) by rw [hu]]
      by_cases c : mI σ1 34 (a + i) = 0
      · rw [if_pos c]
        refine ⟨(lN (odA cf u a i), lN (odB u a i), nI (a + i + 1), s1), rfl, ?_, ?_, rfl, h5⟩ <;> simp [c]
      · rw [if_neg c]
        refine ⟨(_, _, _, _), rfl, ?_, ?_, rfl, h6⟩
        · simp only [c, ne_eq, not_false_eq_true, decide_true, if_true]
          rw [lN_mul]
        · simp only [c, ne_eq, not_false_eq_true, decide_true, if_true]
          exact lN_mul _ 10
    · rintro z ⟨x, y, h, s⟩ ⟨h1, h2, h3, h4⟩
      have hh : h = nI (a + (b - a)) := h3
      subst hh
      refine ⟨(x, y, s), ?_, h1, h2, h4⟩
      show B_Mo_odds_l49 N (nI b) (nI w) (L_Mo_odds_l49 N (nI b) (nI w) z) x y (nI (a + (b - a))) s = _
      unfold B_Mo_odds_l49
      rw [if_pos (nI_le (by omega) (by omega))]
  change x = _ at m2
  change y = _ at m3
  change Fr _ _ σ1 s at m4
  subst m2; subst m3
  refine ⟨(if nI w = 0 then lN (odA cf u a (b - a)) / lN (Nat.gcd (odA cf u a (b - a)) (odB u a (b - a))) else lN (odB u a (b - a)) / lN (Nat.gcd (odA cf u a (b - a)) (odB u a (b - a)))), σ1, s, ?_, ?_, I1.k (m4.keeps (by decide))⟩
  rotate_left
  · rw [m1]
    simp only [bnd1_s, q3]
    rw [l2]
    simp only [bnd1_s]
    rw [grd_t (by simp [l3]), grd_t (by simp [l3])]
    by_cases c : nI w = 0
    · rw [if_pos c, if_pos c]
    · rw [if_neg c, if_neg c]
  · rw [t1]
    simp only [bnd1_s]
    rw [hC]
