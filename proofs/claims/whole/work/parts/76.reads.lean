-- ===== what both sides read of a day =====
theorem hour_cases (a : Int32) : f_Sh_isHour a = some 0 ∨ (f_Sh_isHour a = some 1 ∧ ∃ h : Nat, h < 24 ∧ a = nI h) := by
  unfold f_Sh_isHour
  rcases pk_ix a (n := 24) (by decide) with q | q | ⟨h, hh, rfl⟩
  · exact Or.inl (by rw [if_pos q])
  · by_cases q0 : a < 0
    · exact Or.inl (by rw [if_pos q0])
    · exact Or.inl (by rw [if_neg q0, if_pos (show (24 : Int32) ≤ a from q)])
  · exact Or.inr ⟨by rw [if_neg (nI_pos (by omega)), if_neg (show ¬ ((24 : Int32) ≤ nI h) from nI_ge (b := 24) hh (by decide))], h, hh, rfl⟩
theorem mo_isHour (a : Int32) : f_Mo_isHour a = f_Sh_isHour a := rfl
theorem hour_t {h : Nat} (hh : h < 24) : f_Sh_isHour (nI h) = some 1 := by
  unfold f_Sh_isHour
  rw [if_neg (nI_pos (by omega)), if_neg (show ¬ ((24 : Int32) ≤ nI h) from nI_ge (b := 24) hh (by decide))]
theorem da_isFree {σ : Mem} {sq : Nat} (hs : sq < 144) : f_Da_isFree σ (nI sq) = some (if mI σ 39 sq = 0 then 1 else 0) := by
  unfold f_Da_isFree
  rw [if_neg (nI_pos (by omega)), if_neg (show ¬ ((144 : Int32) ≤ nI sq) from nI_ge (b := 144) hs (by decide)), grd_t (inb_j hs (by decide)), nI_clamp (by omega)]
  by_cases h : mI σ 39 sq = 0
  · rw [if_pos h, if_pos h]
  · rw [if_neg h, if_neg h]
theorem ixC {h sq : Nat} : nI h * 144 + nI sq = nI (144 * h + sq) := by
  show nI h * nI 144 + nI sq = _
  rw [pk_mul, nI_add, Nat.mul_comm]
theorem ixM {h sq : Nat} : 144 * nI h + nI sq = nI (144 * h + sq) := by
  show nI 144 * nI h + nI sq = _
  rw [pk_mul, nI_add]
theorem da_whoCasts {σ : Mem} {h sq : Nat} (hh : h < 24) (hs : sq < 144) : f_Da_whoCasts σ (nI h) (nI sq) = some (who σ h sq) := by
  unfold f_Da_whoCasts who
  rw [da_isFree hs]
  simp only [bnd1_s]
  by_cases c : mI σ 39 sq = 0
  · rw [if_pos c, if_neg ne10, hour_t hh, if_pos c]
    simp only [bnd1_s, if_neg ne10]
    rw [ixC, grd_t (inb_j (by omega) (by decide)), nI_clamp (by omega)]
  · rw [if_neg c, if_pos rfl, if_neg c]
theorem mo_whoOn {σ : Mem} (hD : DayEq σ) {h sq : Nat} (hh : h < 24) (hs : sq < 144) : f_Mo_whoOn σ (nI h) (nI sq) = some (who σ h sq) := by
  unfold f_Mo_whoOn
  rw [ixM, grd_t (inb_j (by omega) (by decide)), nI_clamp (by omega), hD.2.2 h hh sq hs]
theorem who_k {σ σ' : Mem} (h1 : mI σ' 38 = mI σ 38) (h2 : mI σ' 39 = mI σ 39) (h sq : Nat) : who σ' h sq = who σ h sq := by
  unfold who
  rw [h1, h2]
theorem DayEq.k {σ σ' : Mem} (hD : DayEq σ) (g : Keeps [34, 38, 39, 86, 87, 88] [] σ σ') : DayEq σ' := by
  obtain ⟨d1, d2, d3⟩ := hD
  refine ⟨fun h hh => ?_, fun sq hs => ?_, fun h hh sq hs => ?_⟩
  · rw [g.r 87 (by decide), g.r 34 (by decide)]; exact d1 h hh
  · rw [g.r 88 (by decide), g.r 39 (by decide)]; exact d2 sq hs
  · rw [g.r 86 (by decide), who_k (g.r 38 (by decide)) (g.r 39 (by decide))]; exact d3 h hh sq hs
theorem rch_lt (s : Int32) (k p z d : Nat → Int32) (e n : Int32) (sq : Nat) : ∀ m, m ≤ 16 → ∃ w : Nat, w < 2 ^ m ∧ rch s k p z d e n sq m = nI w := by
  intro m
  induction m with
  | zero => intro _; exact ⟨0, by decide, rfl⟩
  | succ m ih =>
    intro hm
    obtain ⟨w, hw, ew⟩ := ih (by omega)
    unfold rch
    rw [ew]
    have hw2 : w < 2 ^ (m + 1) := Nat.lt_of_lt_of_le hw (Nat.pow_le_pow_right (by decide) (by omega))
    by_cases c : (stands s m && hit (hitL (k m) (p m) (z m) (d m) e n) sq) = true
    · rw [if_pos c, one_shl m (by omega), fa_or]
      exact ⟨w ||| 2 ^ m, Nat.or_lt_two_pow hw2 (Nat.pow_lt_pow_right (by decide) (by omega)), rfl⟩
    · rw [if_neg c]
      exact ⟨w, hw2, rfl⟩
theorem who_lt {N : Nat} {σ : Mem} (hI : Inv N σ) (hR : Rdy σ) {h sq : Nat} (hh : h < 24) (hs : sq < 144) : ∃ w n : Nat, n ≤ 16 ∧ mI σ 19 6 = nI n ∧ w < 2 ^ n ∧ who σ h sq = nI w := by
  obtain ⟨n, lt, Hs, Vs, ok, hc, hm, hS, hB⟩ := hI.day hR
  obtain ⟨nt, hnt, e6, -⟩ := hI.mtown
  unfold who
  have hpos : 0 < 2 ^ nt := Nat.pow_pos (by decide)
  by_cases c : mI σ 39 sq = 0
  · rw [if_pos c, hB.2 h hh sq hs]
    by_cases u : mI σ 34 h = 0
    · rw [if_pos u]; exact ⟨0, nt, hnt, e6, hpos, rfl⟩
    · rw [if_neg u, e6, nI_clamp (by omega)]
      obtain ⟨w, hw, ew⟩ := rch_lt (mI σ 19 7) (mI σ 20) (mI σ 21) (mI σ 22) (mI σ 23) (mI σ 35 h) (mI σ 36 h) sq nt hnt
      exact ⟨w, nt, hnt, rfl, hw, ew⟩
  · rw [if_neg c]; exact ⟨0, nt, hnt, e6, hpos, rfl⟩
theorem who16 {N : Nat} {σ : Mem} (hI : Inv N σ) (hR : Rdy σ) {h sq : Nat} (hh : h < 24) (hs : sq < 144) : ∃ w : Nat, w < 65536 ∧ who σ h sq = nI w := by
  obtain ⟨w, n, hn, -, hw, ew⟩ := who_lt hI hR hh hs
  exact ⟨w, Nat.lt_of_lt_of_le hw (Nat.pow_le_pow_right (n := 2) (by decide) hn), ew⟩
theorem up01 {N : Nat} {σ : Mem} (hI : Inv N σ) (hR : Rdy σ) {h : Nat} (hh : h < 24) : mI σ 34 h = 0 ∨ mI σ 34 h = 1 := by
  obtain ⟨n, lt, Hs, Vs, -, -, -, hS, -⟩ := hI.day hR
  rw [(hS h hh).1]
  exact sup01 _ _ _ _
theorem da_isUp {N : Nat} {σ : Mem} (hI : Inv N σ) (hR : Rdy σ) {h : Nat} (hh : h < 24) : f_Da_isUp σ (nI h) = some (mI σ 34 h) := by
  unfold f_Da_isUp
  rw [hour_t hh]
  simp only [bnd1_s, if_neg ne10]
  rw [grd_t (inb_j hh (by decide)), nI_clamp (by omega)]
  rcases up01 hI hR hh with e | e <;> rw [e] <;> rfl
-- ===== the law of a day, kept in one name =====
abbrev LW : Type := Nat × (Nat → Int32) × (Nat → FA → Int32) × (Nat → FA → Int32)
def DayL (N : Nat) (σ : Mem) (W : LW) : Prop := LawOk W.1 W.2.2.1 ∧ LawC N σ W.1 W.2.1 W.2.2.1 W.2.2.2 ∧ LawM N σ W.1 W.2.1 W.2.2.1 W.2.2.2 ∧ SkyOk σ W.1 W.2.1 W.2.2.1 W.2.2.2
theorem Inv.dayL {N : Nat} {σ : Mem} (hI : Inv N σ) (hR : Rdy σ) : ∃ W, DayL N σ W := by
  obtain ⟨n, lt, Hs, Vs, ok, hc, hm, hS, hB⟩ := hI.day hR
  exact ⟨(n, lt, Hs, Vs), ok, hc, hm, hS⟩
theorem DayL.k {N : Nat} {σ σ' : Mem} {W : LW} (h : DayL N σ W) (g : Keeps rLaw pLaw σ σ') : DayL N σ' W := ⟨h.1, h.2.1.k (g.sub (by decide) (by decide)), h.2.2.1.k (g.sub (by decide) (by decide)), h.2.2.2.k (g.sub (by decide) (by decide))⟩
/-- the facts of a square, and of a buyer -/
def fSq (h m sq b : Int32) : FA := up1 (up1 (up1 (fHour h m) 2 (sq - sq / 12 * 12)) 3 (sq / 12)) 4 b
def fBy (h m sq b i w : Int32) : FA := up1 (up1 (fSq h m sq b) 5 i) 6 w
def bitsW (v : Int32) : Int32 := nI (pcR v.toNatClampNeg 16)
def prc (W : LW) (σ : Mem) (h sq : Nat) : Int32 := sval W.1 W.2.1 W.2.2.1 W.2.2.2 112 0 99 (fSq (nI h) (mI σ 19 8) (nI sq) (bitsW (who σ h sq)))
def wayI (sq p : Int32) : Int32 := absI ((sq - sq / 12 * 12) - (p - p / 12 * 12)) + absI (sq / 12 - p / 12)
def wth (W : LW) (σ : Mem) (i h sq : Nat) : Int32 := sval W.1 W.2.1 W.2.2.1 W.2.2.2 119 0 999 (fBy (nI h) (mI σ 19 8) (nI sq) (bitsW (who σ h sq)) (nI i) (wayI (nI sq) (mI σ 48 i)))
theorem clamp_in {lo hi : Nat} (h : lo ≤ hi) (hh : hi < 2 ^ 31) (v : Int32) : ∃ w : Nat, lo ≤ w ∧ w ≤ hi ∧ clampI (nI lo) (nI hi) v = nI w := by
  unfold clampI
  by_cases c1 : nI lo ≤ v
  · rw [if_pos c1]
    by_cases c2 : v ≤ nI hi
    · rw [if_pos c2]
      rcases cl_cases v with ⟨q1, -⟩ | ⟨m, hm, q1, -⟩
      · exact absurd (Int32.lt_of_le_of_lt (Int32.le_trans (nI_pos' (show lo < 2 ^ 31 by omega)) c1) q1) (Int32.lt_irrefl)
      · subst q1
        rw [Int32.le_iff_toInt_le, nI_toInt (by omega), nI_toInt (by omega)] at c1 c2
        exact ⟨m, by omega, by omega, rfl⟩
    · rw [if_neg c2]; exact ⟨hi, h, Nat.le_refl _, rfl⟩
  · rw [if_neg c1]; exact ⟨lo, Nat.le_refl _, h, rfl⟩
theorem sval_in (n : Nat) (lt : Nat → Int32) (Hs Vs : Nat → FA → Int32) (l : Int32) {hi : Nat} (hh : hi < 2 ^ 31) (F : FA) : ∃ w : Nat, w ≤ hi ∧ sval n lt Hs Vs l 0 (nI hi) F = nI w := by
  unfold sval
  by_cases c : firstQ n lt Hs l F < n
  · rw [if_pos c]
    obtain ⟨w, -, h2, h3⟩ := clamp_in (lo := 0) (hi := hi) (by omega) hh (Vs (firstQ n lt Hs l F) F)
    exact ⟨w, h2, h3⟩
  · rw [if_neg c]; exact ⟨0, by omega, rfl⟩
theorem prc_in (W : LW) (σ : Mem) (h sq : Nat) : ∃ w : Nat, w ≤ 99 ∧ prc W σ h sq = nI w := sval_in _ _ _ _ _ (hi := 99) (by decide) _
theorem wth_in (W : LW) (σ : Mem) (i h sq : Nat) : ∃ w : Nat, w ≤ 999 ∧ wth W σ i h sq = nI w := sval_in _ _ _ _ _ (hi := 999) (by decide) _
theorem bits_c {N : Nat} {σ : Mem} (hI : Inv N σ) (hR : Rdy σ) {h sq : Nat} (hh : h < 24) (hs : sq < 144) : f_JI_bitCount_0f7a4 (who σ h sq) = some (bitsW (who σ h sq)) := by
  obtain ⟨w, hw, ew⟩ := who16 hI hR hh hs
  unfold bitsW
  rw [ew, bitCount_eq hw, nI_clamp (by omega)]
theorem bits_m {N : Nat} {σ : Mem} (hN : 100 < N) (hI : Inv N σ) (hR : Rdy σ) {h sq : Nat} (hh : h < 24) (hs : sq < 144) : f_Mo_bits N (who σ h sq) = some (bitsW (who σ h sq)) := by
  obtain ⟨w, hw, ew⟩ := who16 hI hR hh hs
  unfold bitsW
  rw [ew, mo_bits hN hw, nI_clamp (by omega)]
theorem fSq_at (h m sq b : Int32) (j : Nat) : fSq h m sq b j = if j = 4 then b else if j = 3 then sq / 12 else if j = 2 then sq - sq / 12 * 12 else fHour h m j := rfl
theorem fBy_at (h m sq b i w : Int32) (j : Nat) : fBy h m sq b i w j = if j = 6 then w else if j = 5 then i else fSq h m sq b j := rfl
theorem da_askSquare {N : Nat} {σ : Mem} (hN : 100 < N) (hI : Inv N σ) (hR : Rdy σ) {h sq : Nat} (hh : h < 24) (hs : sq < 144) : ∃ σ', f_Da_askSquare N σ (nI h) (nI sq) = some σ' ∧ TF σ' (fSq (nI h) (mI σ 19 8) (nI sq) (bitsW (who σ h sq))) := by
  obtain ⟨s, p, t⟩ := la_askHour hN σ (nI h) (mI σ 19 8)
  refine ⟨sI (sI (sI s 8 2 (nI sq - nI sq / 12 * 12)) 8 3 (nI sq / 12)) 8 4 (bitsW (who σ h sq)), ?_, fun j hj => ?_⟩
  · unfold f_Da_askSquare
    rw [da_whoCasts hh hs]
    simp only [bnd1_s]
    rw [bits_c hI hR hh hs]
    simp only [bnd1_s]
    rw [p]
    rfl
  · rw [rdI, rdI, rdI, fSq_at]
    by_cases e4 : j = 4
    · rw [if_pos ⟨rfl, e4⟩, if_pos e4]
    · rw [if_neg (fun z => e4 z.2), if_neg e4]
      by_cases e3 : j = 3
      · rw [if_pos ⟨rfl, e3⟩, if_pos e3]
      · rw [if_neg (fun z => e3 z.2), if_neg e3]
        by_cases e2 : j = 2
        · rw [if_pos ⟨rfl, e2⟩, if_pos e2]
        · rw [if_neg (fun z => e2 z.2), if_neg e2]
          exact t j hj
theorem da_priceOf {N : Nat} {σ : Mem} {W : LW} (hN : 100 < N) (hI : Inv N σ) (hR : Rdy σ) (hL : DayL N σ W) {h sq : Nat} (hh : h < 24) (hs : sq < 144) : ∃ σ', f_Da_priceOf N σ (nI h) (nI sq) = some (prc W σ h sq, σ') := by
  obtain ⟨s, p, t⟩ := da_askSquare hN hI hR hh hs
  have F := fm_Da_askSquare p
  obtain ⟨⟨r, s'⟩, q1, q2⟩ := la_value hN hL.1 hL.2.1 (F.mono (by decide) (by simp)) t (l := 112) (lo := 0) (hi := 99) (by decide) (by decide)
  refine ⟨s', ?_⟩
  unfold f_Da_priceOf
  rw [p]
  simp only [bnd1_s]
  rw [q1]
  change r = _ at q2
  rw [q2]
  rfl
theorem da_worthOf {N : Nat} {σ : Mem} {W : LW} (hN : 100 < N) (hI : Inv N σ) (hR : Rdy σ) (hL : DayL N σ W) {i h sq : Nat} (hi : i < 8) (hh : h < 24) (hs : sq < 144) : ∃ σ', f_Ma_worthOf N σ (nI i) (nI sq) (nI h) = some (wth W σ i h sq, σ') := by
  obtain ⟨s, p, t⟩ := da_askSquare hN hI hR hh hs
  have F := fm_Da_askSquare p
  have F2 : Fr [8] [] σ (sI (sI s 8 5 (nI i)) 8 6 (wayI (nI sq) (mI σ 48 i))) := (F.aI rfl (by decide)).aI rfl (by decide)
  have t2 : TF (sI (sI s 8 5 (nI i)) 8 6 (wayI (nI sq) (mI σ 48 i))) (fBy (nI h) (mI σ 19 8) (nI sq) (bitsW (who σ h sq)) (nI i) (wayI (nI sq) (mI σ 48 i))) := fun j hj => by
    rw [rdI, rdI, fBy_at]
    by_cases e4 : j = 6
    · rw [if_pos ⟨rfl, e4⟩, if_pos e4]
    · rw [if_neg (fun z => e4 z.2), if_neg e4]
      by_cases e3 : j = 5
      · rw [if_pos ⟨rfl, e3⟩, if_pos e3]
      · rw [if_neg (fun z => e3 z.2), if_neg e3]
        exact t j hj
  obtain ⟨⟨r, s'⟩, q1, q2⟩ := la_value hN hL.1 hL.2.1 (F2.mono (by decide) (by simp)) t2 (l := 119) (lo := 0) (hi := 999) (by decide) (by decide)
  refine ⟨s', ?_⟩
  unfold f_Ma_worthOf f_Ma_isNumber f_Da_worthOf
  rw [if_neg (nI_pos (by omega)), if_neg (show ¬ ((8 : Int32) ≤ nI i) from nI_ge (b := 8) hi (by decide))]
  simp only [bnd1_s, if_neg ne10]
  rw [grd_t (inb_j hi (by decide)), nI_clamp (by omega), jm_abs]
  simp only [bnd1_s]
  rw [grd_t (inb_j hi (by decide)), jm_abs]
  simp only [bnd1_s]
  rw [p]
  simp only [bnd1_s]
  unfold f_La_askBuyer
  simp only [letv, bnd1_s]
  change f_La_valueOf N (sI (sI s 8 5 (nI i)) 8 6 (wayI (nI sq) (mI σ 48 i))) 119 0 999 = some (r, s') at q1
  unfold wayI at q1
  rw [q1]
  change r = _ at q2
  rw [q2]
  rfl
theorem mo_priceOf {N : Nat} {σ : Mem} {W : LW} (hN : 100 < N) (hI : Inv N σ) (hR : Rdy σ) (hL : DayL N σ W) (hD : DayEq σ) {h sq : Nat} (hh : h < 24) (hs : sq < 144) : ∃ σ', f_Mo_priceOf N σ (nI sq) (nI h) = some (prc W σ h sq, σ') := by
  obtain ⟨s, p, t⟩ := mo_feels hN σ (nI h)
  obtain ⟨nt, hnt, e6, e0, e1, e2, -⟩ := hI.mtown
  rw [e2] at t
  have F := fm_Mo_feels p
  have F2 : Fr [85] [] σ (sI (sI s 85 2 (nI sq - nI sq / 12 * 12)) 85 3 (nI sq / 12)) := (F.aI rfl (by decide)).aI rfl (by decide)
  have F3 : Fr [85] [] σ (sI (sI (sI s 85 2 (nI sq - nI sq / 12 * 12)) 85 3 (nI sq / 12)) 85 4 (bitsW (who σ h sq))) := F2.aI rfl (by decide)
  have t2 : FF (sI (sI (sI s 85 2 (nI sq - nI sq / 12 * 12)) 85 3 (nI sq / 12)) 85 4 (bitsW (who σ h sq))) (fSq (nI h) (mI σ 19 8) (nI sq) (bitsW (who σ h sq))) := fun j hj => by
    rw [rdI, rdI, rdI, fSq_at]
    by_cases e4 : j = 4
    · rw [if_pos ⟨rfl, e4⟩, if_pos e4]
    · rw [if_neg (fun z => e4 z.2), if_neg e4]
      by_cases e3 : j = 3
      · rw [if_pos ⟨rfl, e3⟩, if_pos e3]
      · rw [if_neg (fun z => e3 z.2), if_neg e3]
        by_cases e2 : j = 2
        · rw [if_pos ⟨rfl, e2⟩, if_pos e2]
        · rw [if_neg (fun z => e2 z.2), if_neg e2]
          exact t j hj
  obtain ⟨⟨r, s'⟩, q1, q2⟩ := mo_byLaw hN hL.1 hL.2.2.1 (F3.mono (by decide) (by simp)) t2 (l := 112) (lo := 0) (hi := 99) (by decide)
  refine ⟨s', ?_⟩
  unfold f_Mo_priceOf
  rw [p]
  simp only [bnd1_s, letv]
  rw [mo_whoOn (hD.k (F2.keeps (by decide))) hh hs, who_k (F2.rowI 38 (by decide) (by simp)) (F2.rowI 39 (by decide) (by simp))]
  simp only [bnd1_s]
  rw [bits_m hN hI hR hh hs]
  simp only [bnd1_s]
  rw [q1]
  change r = _ at q2
  rw [q2]
  rfl
theorem mo_worthOf {N : Nat} {σ : Mem} {W : LW} (hN : 100 < N) (hI : Inv N σ) (hR : Rdy σ) (hL : DayL N σ W) (hD : DayEq σ) {i h sq : Nat} (hi : i < 8) (hh : h < 24) (hs : sq < 144) : ∃ σ', f_Mo_worthOf N σ (nI i) (nI sq) (nI h) = some (wth W σ i h sq, σ') := by
  obtain ⟨s, p, t⟩ := mo_feels hN σ (nI h)
  obtain ⟨nt, hnt, e6, e0, e1, e2, -⟩ := hI.mtown
  obtain ⟨pl, hpl, ep1, ep2⟩ := hI.2.2.2.1.2 i hi
  have e94 : mI σ 94 i = mI σ 48 i := ep2.trans ep1.symm
  rw [e2] at t
  have F := fm_Mo_feels p
  have F2 : Fr [85] [] σ (sI (sI s 85 2 (nI sq - nI sq / 12 * 12)) 85 3 (nI sq / 12)) := (F.aI rfl (by decide)).aI rfl (by decide)
  have F4 : Fr [85] [] σ (sI (sI (sI (sI s 85 2 (nI sq - nI sq / 12 * 12)) 85 3 (nI sq / 12)) 85 4 (bitsW (who σ h sq))) 85 5 (nI i)) := (F2.aI rfl (by decide)).aI rfl (by decide)
  have F3 : Fr [85] [] σ (sI (sI (sI (sI (sI s 85 2 (nI sq - nI sq / 12 * 12)) 85 3 (nI sq / 12)) 85 4 (bitsW (who σ h sq))) 85 5 (nI i)) 85 6 (wayI (nI sq) (mI σ 48 i))) := F4.aI rfl (by decide)
  have t2 : FF (sI (sI (sI (sI (sI s 85 2 (nI sq - nI sq / 12 * 12)) 85 3 (nI sq / 12)) 85 4 (bitsW (who σ h sq))) 85 5 (nI i)) 85 6 (wayI (nI sq) (mI σ 48 i))) (fBy (nI h) (mI σ 19 8) (nI sq) (bitsW (who σ h sq)) (nI i) (wayI (nI sq) (mI σ 48 i))) := fun j hj => by
    rw [rdI, rdI, rdI, rdI, rdI, fBy_at, fSq_at]
    by_cases e6 : j = 6
    · rw [if_pos ⟨rfl, e6⟩, if_pos e6]
    · rw [if_neg (fun z => e6 z.2), if_neg e6]
      by_cases e5 : j = 5
      · rw [if_pos ⟨rfl, e5⟩, if_pos e5]
      · rw [if_neg (fun z => e5 z.2), if_neg e5]
        by_cases e4 : j = 4
        · rw [if_pos ⟨rfl, e4⟩, if_pos e4]
        · rw [if_neg (fun z => e4 z.2), if_neg e4]
          by_cases e3 : j = 3
          · rw [if_pos ⟨rfl, e3⟩, if_pos e3]
          · rw [if_neg (fun z => e3 z.2), if_neg e3]
            by_cases e2 : j = 2
            · rw [if_pos ⟨rfl, e2⟩, if_pos e2]
            · rw [if_neg (fun z => e2 z.2), if_neg e2]
              exact t j hj
  obtain ⟨⟨r, s'⟩, q1, q2⟩ := mo_byLaw hN hL.1 hL.2.2.1 (F3.mono (by decide) (by simp)) t2 (l := 119) (lo := 0) (hi := 999) (by decide)
  refine ⟨s', ?_⟩
  unfold f_Mo_worthOf
  rw [p]
  simp only [bnd1_s, letv]
  rw [mo_whoOn (hD.k (F2.keeps (by decide))) hh hs, who_k (F2.rowI 38 (by decide) (by simp)) (F2.rowI 39 (by decide) (by simp))]
  simp only [bnd1_s]
  rw [bits_m hN hI hR hh hs]
  simp only [bnd1_s]
  rw [grd_t (inb_j hi (by decide)), nI_clamp (by omega), F4.I 94 i (by decide) (by simp), e94, mo_size]
  simp only [bnd1_s]
  rw [grd_t (inb_j hi (by decide)), mo_size]
  simp only [bnd1_s]
  unfold wayI at q1
  rw [q1]
  change r = _ at q2
  rw [q2]
  rfl
theorem prc_k (W : LW) {σ σ' : Mem} (h0 : mI σ' 19 8 = mI σ 19 8) (h1 : mI σ' 38 = mI σ 38) (h2 : mI σ' 39 = mI σ 39) (h sq : Nat) : prc W σ' h sq = prc W σ h sq := by
  unfold prc
  rw [h0, who_k h1 h2]
theorem wth_k (W : LW) {σ σ' : Mem} (h0 : mI σ' 19 8 = mI σ 19 8) (h1 : mI σ' 38 = mI σ 38) (h2 : mI σ' 39 = mI σ 39) (h3 : mI σ' 48 = mI σ 48) (i h sq : Nat) : wth W σ' i h sq = wth W σ i h sq := by
  unfold wth
  rw [h0, who_k h1 h2, h3]
