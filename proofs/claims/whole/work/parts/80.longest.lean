-- ===== the longest row of hours, a donkey =====
/-- of the first hours: how many in the longest row, its first hour, how many in the row that goes on -/
def lgS (f : Nat → Bool) : Nat → Nat × Nat × Nat
  | 0 => (0, 0, 0)
  | i + 1 => if (if f i then (lgS f i).2.2 + 1 else 0) ≤ (lgS f i).1 then ((lgS f i).1, (lgS f i).2.1, if f i then (lgS f i).2.2 + 1 else 0) else (if f i then (lgS f i).2.2 + 1 else 0, i + 1 - (if f i then (lgS f i).2.2 + 1 else 0), if f i then (lgS f i).2.2 + 1 else 0)
theorem lgS_ok (f : Nat → Bool) : ∀ i, (lgS f i).2.2 ≤ i ∧ (lgS f i).2.2 ≤ (lgS f i).1 ∧ (lgS f i).1 + (lgS f i).2.1 ≤ i ∧ ((lgS f i).1 = 0 → (lgS f i).2.1 = 0) := by
  intro i
  induction i with
  | zero => exact ⟨Nat.le_refl _, Nat.le_refl _, Nat.le_refl _, fun _ => rfl⟩
  | succ i ih =>
    obtain ⟨h1, h2, h3, h4⟩ := ih
    unfold lgS
    generalize (lgS f i).1 = m at *
    generalize (lgS f i).2.1 = s at *
    generalize (lgS f i).2.2 = w at *
    cases f i with
    | true =>
      simp only [if_true]
      by_cases c : w + 1 ≤ m
      · simp only [if_pos c]; omega
      · simp only [if_neg c]; omega
    | false =>
      simp only [if_neg f10]
      rw [if_pos (Nat.zero_le m)]
      simp only
      refine ⟨by omega, by omega, by omega, h4⟩
theorem i_sub1 (a b : Int32) : a - b + 1 = a + 1 - b := by
  rw [Int32.sub_eq_add_neg, Int32.sub_eq_add_neg, Int32.add_assoc, Int32.add_comm (-b) 1, ← Int32.add_assoc]
def shB (σ : Mem) (sq h : Nat) : Bool := decide (who σ h sq ≠ 0)
theorem shB_k {σ σ' : Mem} (h1 : mI σ' 38 = mI σ 38) (h2 : mI σ' 39 = mI σ 39) (sq : Nat) : shB σ' sq = shB σ sq := funext fun h => by unfold shB; rw [who_k h1 h2]
theorem da_longestRow {N : Nat} {σ : Mem} {sq : Nat} (hN : 1000 < N) (hs : sq < 144) : f_Da_longestRow N σ (nI sq) = some (nI (24 * (lgS (shB σ sq) 24).1 + (lgS (shB σ sq) 24).2.1)) := by
  unfold f_Da_longestRow
  refine loopS (L := fun k (a : Int32 × Int32 × Int32) => L_Da_longestRow_l7 N (nI sq) σ k a.1 a.2.1 a.2.2) (fun i => (nI (24 * (lgS (shB σ sq) i).1 + (lgS (shB σ sq) i).2.1), nI (lgS (shB σ sq) i).2.2, nI i)) _ 24 (fun k i hi => ?_) (fun k => ?_) (by omega)
  · show B_Da_longestRow_l7 N (nI sq) σ (L_Da_longestRow_l7 N (nI sq) σ k) (nI (24 * (lgS (shB σ sq) i).1 + (lgS (shB σ sq) i).2.1)) (nI (lgS (shB σ sq) i).2.2) (nI i) = L_Da_longestRow_l7 N (nI sq) σ k (nI (24 * (lgS (shB σ sq) (i + 1)).1 + (lgS (shB σ sq) (i + 1)).2.1)) (nI (lgS (shB σ sq) (i + 1)).2.2) (nI (i + 1))
    unfold B_Da_longestRow_l7
    rw [if_neg (show ¬ ((24 : Int32) ≤ nI i) from nI_ge (b := 24) hi (by decide)), da_whoCasts hi hs]
    obtain ⟨h1, h2, h3, h4⟩ := lgS_ok (shB σ sq) i
    have ef : shB σ sq i = decide (who σ i sq ≠ 0) := rfl
    have ey : (if who σ i sq = 0 then some 0 else some (nI (lgS (shB σ sq) i).2.2 + 1) : Option Int32) = some (nI (if shB σ sq i then (lgS (shB σ sq) i).2.2 + 1 else 0)) := by
      by_cases c : who σ i sq = 0
      · rw [if_pos c, ef]; simp [c, nI_0]
      · rw [if_neg c, ef]; simp [c, nI_1]
    simp only [bnd1_s, letv]
    rw [ey]
    have hst : lgS (shB σ sq) (i + 1) = if (if shB σ sq i then (lgS (shB σ sq) i).2.2 + 1 else 0) ≤ (lgS (shB σ sq) i).1 then ((lgS (shB σ sq) i).1, (lgS (shB σ sq) i).2.1, if shB σ sq i then (lgS (shB σ sq) i).2.2 + 1 else 0) else (if shB σ sq i then (lgS (shB σ sq) i).2.2 + 1 else 0, i + 1 - (if shB σ sq i then (lgS (shB σ sq) i).2.2 + 1 else 0), if shB σ sq i then (lgS (shB σ sq) i).2.2 + 1 else 0) := rfl
    rw [hst]
    have hw' : (if shB σ sq i then (lgS (shB σ sq) i).2.2 + 1 else 0) ≤ i + 1 := by
      cases shB σ sq i <;> simp <;> omega
    generalize (if shB σ sq i then (lgS (shB σ sq) i).2.2 + 1 else 0) = w' at hw'
    generalize (lgS (shB σ sq) i).1 = m at *
    generalize (lgS (shB σ sq) i).2.1 = s at *
    generalize (lgS (shB σ sq) i).2.2 = w at *
    have hdv : nI (24 * m + s) / 24 = nI m := by
      have := pk_div (a := 24 * m + s) (d := 24) (by omega) (by decide) (by decide)
      rw [show (24 * m + s) / 24 = m by omega] at this
      exact this
    simp only [bnd1_s, hdv, nI_1]
    by_cases c : w' ≤ m
    · rw [if_pos (nI_le c (by omega)), if_pos c]; rfl
    · rw [if_neg (nI_ge (by omega) (by omega)), if_neg c]
      simp only [bnd1_s]
      have : 24 * nI w' + nI i - nI w' + 1 = nI (24 * w' + (i + 1 - w')) := by
        show nI 24 * nI w' + nI i - nI w' + 1 = _
        rw [pk_mul, nI_add, pk_sub (by omega), nI_1]
        congr 1
        omega
      rw [this]
  · show B_Da_longestRow_l7 N (nI sq) σ (L_Da_longestRow_l7 N (nI sq) σ k) _ _ (nI 24) = _
    unfold B_Da_longestRow_l7
    rw [if_pos (by decide)]
theorem mo_laysLongest {N : Nat} {σ : Mem} {sq : Nat} (hN : 1000 < N) (hs : sq < 144) (hD : DayEq σ) : ∃ σ', f_Mo_laysLongest N σ (nI sq) = some σ' ∧ mI σ' 65 38 = nI (lgS (shB σ sq) 24).1 ∧ mI σ' 65 39 = if (lgS (shB σ sq) 24).1 = 0 then -2 else nI (lgS (shB σ sq) 24).2.1 := by
  unfold f_Mo_laysLongest
  simp only [letv]
  refine loopR (L := fun k (a : Int32 × Int32 × Mem) => L_Mo_laysLongest_l15 N (nI sq) k a.1 a.2.1 a.2.2) (P := fun i a => a.1 = nI (lgS (shB σ sq) i).2.2 ∧ a.2.1 = nI i ∧ Fr [] [(65, 38), (65, 39)] σ a.2.2 ∧ mI a.2.2 65 38 = nI (lgS (shB σ sq) i).1 ∧ mI a.2.2 65 39 = if (lgS (shB σ sq) i).1 = 0 then -2 else nI (lgS (shB σ sq) i).2.1) (a := (0, 0, sI (sI σ 65 38 0) 65 39 (-2))) 24 ?_ ?_ (by omega) ⟨rfl, rfl, ((Fr.rf _ _ σ).fI (σ2 := sI σ 65 38 0) rfl (by decide)).fI rfl (by decide), by show mI _ 65 38 = nI 0; rw [rdI, rdI]; simp [nI_0], by show mI _ 65 39 = _; rw [rdI]; simp [lgS]⟩
  · rintro k i ⟨x, y, s⟩ hi ⟨h1, h2, h3, h4, h5⟩
    have hx : x = _ := h1
    have hy : y = nI i := h2
    subst hx; subst hy
    change mI s 65 38 = _ at h4
    change mI s 65 39 = _ at h5
    have D' : DayEq s := hD.k (h3.keeps (by decide))
    have hwho : who s i sq = who σ i sq := who_k (h3.rowI 38 (by decide) (by decide)) (h3.rowI 39 (by decide) (by decide)) i sq
    obtain ⟨g1, g2, g3, g4⟩ := lgS_ok (shB σ sq) i
    have ef : shB σ sq i = decide (who σ i sq ≠ 0) := rfl
    have ey : (if who σ i sq = 0 then some 0 else some (nI (lgS (shB σ sq) i).2.2 + 1) : Option Int32) = some (nI (if shB σ sq i then (lgS (shB σ sq) i).2.2 + 1 else 0)) := by
      by_cases c : who σ i sq = 0
      · rw [if_pos c, ef]; simp [c, nI_0]
      · rw [if_neg c, ef]; simp [c, nI_1]
    have hst : lgS (shB σ sq) (i + 1) = if (if shB σ sq i then (lgS (shB σ sq) i).2.2 + 1 else 0) ≤ (lgS (shB σ sq) i).1 then ((lgS (shB σ sq) i).1, (lgS (shB σ sq) i).2.1, if shB σ sq i then (lgS (shB σ sq) i).2.2 + 1 else 0) else (if shB σ sq i then (lgS (shB σ sq) i).2.2 + 1 else 0, i + 1 - (if shB σ sq i then (lgS (shB σ sq) i).2.2 + 1 else 0), if shB σ sq i then (lgS (shB σ sq) i).2.2 + 1 else 0) := rfl
    have hB : ∀ t : Mem, B_Mo_laysLongest_l15 N (nI sq) (L_Mo_laysLongest_l15 N (nI sq) k) (nI (lgS (shB σ sq) i).2.2) (nI i) s = L_Mo_laysLongest_l15 N (nI sq) k (nI (if shB σ sq i then (lgS (shB σ sq) i).2.2 + 1 else 0)) (nI (i + 1)) (if (if shB σ sq i then (lgS (shB σ sq) i).2.2 + 1 else 0) ≤ (lgS (shB σ sq) i).1 then s else sI (sI s 65 38 (nI (if shB σ sq i then (lgS (shB σ sq) i).2.2 + 1 else 0))) 65 39 (nI (i + 1 - (if shB σ sq i then (lgS (shB σ sq) i).2.2 + 1 else 0)))) := by
      intro _
      unfold B_Mo_laysLongest_l15
      rw [if_neg (show ¬ ((24 : Int32) ≤ nI i) from nI_ge (b := 24) hi (by decide)), mo_whoOn D' hi hs, hwho]
      simp only [bnd1_s, letv]
      rw [ey]
      simp only [bnd1_s]
      rw [h4]
      have hw' : (if shB σ sq i then (lgS (shB σ sq) i).2.2 + 1 else 0) ≤ i + 1 := by
        cases shB σ sq i <;> simp <;> omega
      generalize (if shB σ sq i then (lgS (shB σ sq) i).2.2 + 1 else 0) = w' at hw'
      generalize (lgS (shB σ sq) i).1 = m at *
      by_cases c : w' ≤ m
      · rw [if_neg (nI_nlt c (by omega)), if_pos c]
        simp only [bnd1_s]
        rw [nI_1]
      · rw [if_pos (nI_lt (by omega) (by omega)), if_neg c]
        simp only [bnd1_s]
        rw [i_sub1, nI_1, pk_sub (by omega)]
    refine Or.inr ⟨(_, _, _), hB s, ?_, rfl, ?_, ?_, ?_⟩
    · show nI _ = nI _
      rw [hst]
      by_cases c : (if shB σ sq i then (lgS (shB σ sq) i).2.2 + 1 else 0) ≤ (lgS (shB σ sq) i).1
      · rw [if_pos c]
      · rw [if_neg c]
    · show Fr _ _ σ (if _ then _ else _)
      by_cases c : (if shB σ sq i then (lgS (shB σ sq) i).2.2 + 1 else 0) ≤ (lgS (shB σ sq) i).1
      · rw [if_pos c]; exact h3
      · rw [if_neg c]
        exact (h3.fI rfl (by decide)).fI rfl (by decide)
    · show mI (if _ then _ else _) 65 38 = _
      rw [hst]
      by_cases c : (if shB σ sq i then (lgS (shB σ sq) i).2.2 + 1 else 0) ≤ (lgS (shB σ sq) i).1
      · rw [if_pos c, if_pos c]; exact h4
      · rw [if_neg c, if_neg c, rdI, rdI]; simp
    · show mI (if _ then _ else _) 65 39 = _
      rw [hst]
      by_cases c : (if shB σ sq i then (lgS (shB σ sq) i).2.2 + 1 else 0) ≤ (lgS (shB σ sq) i).1
      · rw [if_pos c, if_pos c]; exact h5
      · rw [if_neg c, if_neg c, rdI, if_pos ⟨rfl, rfl⟩]
        exact (if_neg (show ¬ (if shB σ sq i then (lgS (shB σ sq) i).2.2 + 1 else 0) = 0 by omega)).symm
  · rintro k ⟨x, y, s⟩ ⟨h1, h2, h3, h4, h5⟩
    have hy : y = nI 24 := h2
    subst hy
    refine ⟨s, ?_, h4, h5⟩
    show B_Mo_laysLongest_l15 N (nI sq) (L_Mo_laysLongest_l15 N (nI sq) k) x (nI 24) s = _
    unfold B_Mo_laysLongest_l15
    rw [if_pos (by decide)]
theorem lg_div {m s : Nat} (h3 : m + s ≤ 24) (h4 : m = 0 → s = 0) : nI (24 * m + s) / 24 = nI m ∧ nI (24 * m + s) - nI (24 * m + s) / 24 * 24 = nI s := by
  have e1 : nI (24 * m + s) / 24 = nI m := by
    have := pk_div (a := 24 * m + s) (d := 24) (by omega) (by decide) (by decide)
    rw [show (24 * m + s) / 24 = m by omega] at this
    exact this
  refine ⟨e1, ?_⟩
  have := pk_rem (a := 24 * m + s) (d := 24) (by omega) (by decide) (by decide)
  rw [show (24 * m + s) % 24 = s by omega] at this
  exact this
theorem st_longest {N : Nat} (hN : 70000 ≤ N) : St_longest N := by
  intro σ a1 a2 a3 hI
  unfold f_Sh_longest f_Mo_longest
  rw [mo_isIn, sh_inTown]
  by_cases hT : inT a1 a2 = true
  · obtain ⟨x, y, hx, hy, ex, ey, es⟩ := inT_sq hT
    simp only [hT, bnd1_s, if_true, if_neg ne10]
    rcases in_casesB a3 1 (by decide) with ⟨g, g'⟩ | ⟨g, g1, g2, a, ha, rfl⟩
    · have g : f_Mo_in a3 0 1 = some 0 := g
      refine ⟨-1, σ, σ, ?_, by rw [g]; rfl, hI⟩
      rcases g' with g' | ⟨g', g2⟩
      · rw [if_pos g']
      · rw [if_neg g', if_neg (show ¬ a3 ≤ 1 from g2)]
    · have g : f_Mo_in (nI a) 0 1 = some 1 := g
      obtain ⟨σ1, t1, I1, R1⟩ := today_ok hN hI
      obtain ⟨σ2, p2, D2, I2, R2, F2⟩ := mo_laysDay hN I1 R1
      obtain ⟨σ3, p3, v1, v2⟩ := mo_laysLongest (N := N) (by omega) (show 12 * y + x < 144 by omega) D2
      have F3 := fm_Mo_laysLongest p3
      rw [shB_k (F2.rowI 38 (by decide) (by simp)) (F2.rowI 39 (by decide) (by simp))] at v1 v2
      obtain ⟨-, -, l3, l4⟩ := lgS_ok (shB σ1 (12 * y + x)) 24
      obtain ⟨d1, d2⟩ := lg_div l3 l4
      have hr := da_longestRow (N := N) (σ := σ1) (by omega) (show 12 * y + x < 144 by omega)
      by_cases c : a = 0
      · subst c
        refine ⟨mI σ3 65 38, σ1, σ3, ?_, ?_, I2.k (F3.keeps (by decide))⟩
        rotate_left
        · rw [g, p2]
          simp only [bnd1_s, if_neg ne10]
          rw [es, p3]
          simp only [bnd1_s]
          rw [if_pos nI_0]
        · rw [if_neg g1, if_pos (show nI 0 ≤ 1 from g2), t1]
          simp only [bnd1_s]
          rw [es, hr]
          simp only [bnd1_s]
          rw [if_pos nI_0, d1, v1]
      · have ca : ¬ nI a = 0 := nI_ne0 (by omega) (by omega)
        refine ⟨mI σ3 65 39, σ1, σ3, ?_, ?_, I2.k (F3.keeps (by decide))⟩
        rotate_left
        · rw [g, p2]
          simp only [bnd1_s, if_neg ne10]
          rw [es, p3]
          simp only [bnd1_s]
          rw [if_neg ca]
        · rw [if_neg g1, if_pos (show nI a ≤ 1 from g2), t1]
          simp only [bnd1_s]
          rw [es, hr]
          simp only [bnd1_s]
          rw [if_neg ca, d2, v2]
          by_cases c0 : (lgS (shB σ1 (12 * y + x)) 24).1 = 0
          · rw [if_pos c0, c0, l4 c0, if_pos (show nI (24 * 0 + 0) = 0 from rfl)]
          · rw [if_neg c0, if_neg (nI_ne0 (by omega) (by omega))]
  · have hT' : inT a1 a2 = false := by simpa using hT
    refine ⟨-1, σ, σ, ?_, ?_, hI⟩
    · simp only [bnd1_s, hT', if_neg f10, if_true]
    · simp only [bnd1_s, hT', if_neg f10, if_true]
-- the donkey
def dkB (σ : Mem) (q : Nat) : Bool := decide (mI σ 39 q = 0) && !decide (mI σ 39 (q - 12) = 0)
def dkS (B : Nat → Bool) (l : Nat → Nat) : Nat → Option (Nat × Nat)
  | 0 => none
  | i + 1 => if B (12 + i) then (match dkS B l i with
      | none => some (12 + i, l (12 + i))
      | some (b, m) => if l (12 + i) ≤ m then some (b, m) else some (12 + i, l (12 + i))) else dkS B l i
theorem dkS_lt (B : Nat → Bool) (l : Nat → Nat) (hl : ∀ q, l q ≤ 24) : ∀ i b m, dkS B l i = some (b, m) → b < 12 + i ∧ m ≤ 24 := by
  intro i
  induction i with
  | zero => intro b m h; cases h
  | succ i ih =>
    intro b m h
    unfold dkS at h
    cases hB : B (12 + i) with
    | false =>
      rw [hB, if_neg f10] at h
      obtain ⟨h1, h2⟩ := ih b m h
      exact ⟨by omega, h2⟩
    | true =>
      rw [hB, if_pos rfl] at h
      cases hd : dkS B l i with
      | none =>
        rw [hd] at h
        cases h
        exact ⟨by omega, hl _⟩
      | some bm =>
        obtain ⟨b', m'⟩ := bm
        rw [hd] at h
        obtain ⟨h1, h2⟩ := ih b' m' hd
        simp only at h
        by_cases c : l (12 + i) ≤ m'
        · rw [if_pos c] at h; cases h; exact ⟨by omega, h2⟩
        · rw [if_neg c] at h; cases h; exact ⟨by omega, hl _⟩
def dkC : Option (Nat × Nat) → Int32 × Int32
  | none => (-2, -2)
  | some (b, m) => (nI b, nI m)
def dkM : Option (Nat × Nat) → Int32 × Int32
  | none => (-2, -1)
  | some (b, m) => (nI b, nI m)
def lgM (σ : Mem) (q : Nat) : Nat := (lgS (shB σ q) 24).1
theorem lgM_le (σ : Mem) (q : Nat) : lgM σ q ≤ 24 := by
  have := (lgS_ok (shB σ q) 24).2.2.1
  unfold lgM
  omega
theorem house39 {N : Nat} {σ : Mem} (hN : 100 < N) (hI : Inv N σ) (hR : Rdy σ) {sq : Nat} (hs : sq < 144) : ∃ r, f_To_houseOn N σ (nI sq) = some r ∧ (r = -1 ↔ mI σ 39 sq = 0) := by
  obtain ⟨r, r1, r2, n, hn, e, h⟩ := house_eq hN hI.1 (nI sq)
  refine ⟨r, r1, ?_⟩
  have hf := free_b hN hI hR hs
  unfold f_Mo_isFree at hf
  rw [r2] at hf
  simp only [bnd1_s] at hf
  by_cases c : r = -1
  · rw [if_pos c] at hf
    refine ⟨fun _ => ?_, fun _ => c⟩
    by_cases z : mI σ 39 sq = 0
    · exact z
    · rw [if_neg z] at hf; exact absurd hf (by decide)
  · rw [if_neg c] at hf
    refine ⟨fun z => absurd z c, fun z => ?_⟩
    rw [if_pos z] at hf
    exact absurd hf (by decide)
theorem sh_donkeyL {N : Nat} {σ : Mem} (hN : 1000 < N) (hI : Inv N σ) (hR : Rdy σ) (a1 : Int32) : L_Sh_donkey_l27 N a1 σ N (-2) (-2) 12 = some (dkC (dkS (dkB σ) (lgM σ) 132)) := by
  refine loopS (L := fun k (a : Int32 × Int32 × Int32) => L_Sh_donkey_l27 N a1 σ k a.1 a.2.1 a.2.2) (fun i => ((dkC (dkS (dkB σ) (lgM σ) i)).1, (dkC (dkS (dkB σ) (lgM σ) i)).2, nI (12 + i))) _ 132 (fun k i hi => ?_) (fun k => ?_) (by omega)
  · show B_Sh_donkey_l27 N a1 σ (L_Sh_donkey_l27 N a1 σ k) _ _ (nI (12 + i)) = L_Sh_donkey_l27 N a1 σ k _ _ (nI (12 + (i + 1)))
    have hst : dkS (dkB σ) (lgM σ) (i + 1) = if dkB σ (12 + i) then (match dkS (dkB σ) (lgM σ) i with
      | none => some (12 + i, lgM σ (12 + i))
      | some (b, m) => if lgM σ (12 + i) ≤ m then some (b, m) else some (12 + i, lgM σ (12 + i))) else dkS (dkB σ) (lgM σ) i := rfl
    rw [hst]
    have hm := lgM_le σ (12 + i)
    have hlt := dkS_lt (dkB σ) (lgM σ) (lgM_le σ) i
    generalize dkS (dkB σ) (lgM σ) i = o at hlt ⊢
    unfold B_Sh_donkey_l27
    have e12 : nI (12 + i) - 12 = nI i := by
      have := pk_sub (a := 12 + i) (b := 12) (by omega)
      rw [show 12 + i - 12 = i by omega] at this
      exact this
    rw [if_neg (show ¬ ((144 : Int32) ≤ nI (12 + i)) from nI_ge (b := 144) (by omega) (by decide)), da_isFree (by omega), e12]
    obtain ⟨r, r1, r2⟩ := house39 (N := N) (by omega) hI hR (show i < 144 by omega)
    rw [r1, da_longestRow (by omega) (by omega)]
    obtain ⟨-, -, l3, l4⟩ := lgS_ok (shB σ (12 + i)) 24
    obtain ⟨d1, d2⟩ := lg_div l3 l4
    simp only [bnd1_s, letv, d1]
    have e13 : nI (12 + i) + 1 = nI (12 + (i + 1)) := nI_1 _
    rw [e13]
    have hb : dkB σ (12 + i) = (decide (mI σ 39 (12 + i) = 0) && !decide (mI σ 39 i = 0)) := by
      unfold dkB
      rw [show 12 + i - 12 = i by omega]
    rw [hb]
    by_cases c1 : mI σ 39 (12 + i) = 0
    · rw [if_pos c1, if_neg ne10]
      by_cases c2 : mI σ 39 i = 0
      · rw [if_pos (r2.mpr c2)]
        simp [c1, c2, bnd1_s, q2]
      · rw [if_neg (fun z => c2 (r2.mp z))]
        simp only [c1, c2, decide_true, decide_false, Bool.not_false, Bool.and_self, if_true]
        show bnd1 (if nI (lgM σ (12 + i)) ≤ _ then _ else some (_, nI (lgM σ (12 + i)))) _ = _
        cases o with
        | none =>
          rw [if_neg (show ¬ nI (lgM σ (12 + i)) ≤ (dkC none).2 from fun z => absurd (Int32.le_trans (nI_pos' (show lgM σ (12 + i) < 2 ^ 31 by omega)) z) (by decide))]
          rfl
        | some bm =>
          obtain ⟨b, m⟩ := bm
          obtain ⟨-, hm2⟩ := hlt b m rfl
          show bnd1 (if nI (lgM σ (12 + i)) ≤ nI m then some (nI b, nI m) else some (_, nI (lgM σ (12 + i)))) _ = _
          by_cases c : lgM σ (12 + i) ≤ m
          · rw [if_pos (nI_le c (by omega))]
            simp only [if_pos c]
            rfl
          · rw [if_neg (nI_ge (by omega) (by omega))]
            simp only [if_neg c]
            rfl
    · rw [if_neg c1, if_pos rfl]
      simp [c1, bnd1_s, q2]
  · show B_Sh_donkey_l27 N a1 σ (L_Sh_donkey_l27 N a1 σ k) _ _ (nI 144) = _
    unfold B_Sh_donkey_l27
    rw [if_pos (by decide)]
theorem mo_donkeyL {N : Nat} {σ : Mem} (hN : 1000 < N) (hD : DayEq σ) (a1 : Int32) : ∃ r, L_Mo_donkey_l24 N a1 N (-2) (-1) 12 σ = some r ∧ (r.1, r.2.1) = dkM (dkS (dkB σ) (lgM σ) 132) ∧ Fr [] [(65, 38), (65, 39)] σ r.2.2 := by
  refine loopR (L := fun k (a : Int32 × Int32 × Int32 × Mem) => L_Mo_donkey_l24 N a1 k a.1 a.2.1 a.2.2.1 a.2.2.2) (P := fun i a => (a.1, a.2.1) = dkM (dkS (dkB σ) (lgM σ) i) ∧ a.2.2.1 = nI (12 + i) ∧ Fr [] [(65, 38), (65, 39)] σ a.2.2.2) (a := (-2, -1, 12, σ)) 132 ?_ ?_ (by omega) ⟨rfl, rfl, Fr.rf _ _ _⟩
  · rintro k i ⟨x, y, z, s⟩ hi ⟨h1, h2, h3⟩
    have h1' : (x, y) = dkM (dkS (dkB σ) (lgM σ) i) := h1
    have hz : z = nI (12 + i) := h2
    subst hz
    change Fr _ _ σ s at h3
    have D' : DayEq s := hD.k (h3.keeps (by decide))
    have hst : dkS (dkB σ) (lgM σ) (i + 1) = if dkB σ (12 + i) then (match dkS (dkB σ) (lgM σ) i with
      | none => some (12 + i, lgM σ (12 + i))
      | some (b, m) => if lgM σ (12 + i) ≤ m then some (b, m) else some (12 + i, lgM σ (12 + i))) else dkS (dkB σ) (lgM σ) i := rfl
    rw [hst]
    have hm := lgM_le σ (12 + i)
    have hlt := dkS_lt (dkB σ) (lgM σ) (lgM_le σ) i
    generalize dkS (dkB σ) (lgM σ) i = o at hlt h1' ⊢
    have e12 : nI (12 + i) - 12 = nI i := by
      have := pk_sub (a := 12 + i) (b := 12) (by omega)
      rw [show 12 + i - 12 = i by omega] at this
      exact this
    obtain ⟨s', p', v1, v2⟩ := mo_laysLongest (N := N) (by omega) (show 12 + i < 144 by omega) D'
    have F' := fm_Mo_laysLongest p'
    rw [shB_k (h3.rowI 38 (by decide) (by decide)) (h3.rowI 39 (by decide) (by decide))] at v1
    change mI s' 65 38 = nI (lgM σ (12 + i)) at v1
    have e13 : nI (12 + i) + 1 = nI (12 + (i + 1)) := nI_1 _
    have hb : dkB σ (12 + i) = (decide (mI σ 39 (12 + i) = 0) && !decide (mI σ 39 i = 0)) := by
      unfold dkB
      rw [show 12 + i - 12 = i by omega]
    have r39 : mI s 39 = mI σ 39 := h3.rowI 39 (by decide) (by decide)
    have f1 : mI s 88 (12 + i) = if mI σ 39 (12 + i) = 0 then 1 else 0 := by rw [D'.2.1 _ (by omega), r39]
    have f2 : mI s 88 i = if mI σ 39 i = 0 then 1 else 0 := by rw [D'.2.1 _ (by omega), r39]
    right
    show ∃ a' : Int32 × Int32 × Int32 × Mem, B_Mo_donkey_l24 N a1 (L_Mo_donkey_l24 N a1 k) x y (nI (12 + i)) s = L_Mo_donkey_l24 N a1 k a'.1 a'.2.1 a'.2.2.1 a'.2.2.2 ∧ _
    unfold B_Mo_donkey_l24
    rw [if_neg (show ¬ ((144 : Int32) ≤ nI (12 + i)) from nI_ge (b := 144) (by omega) (by decide)), grd_t (inb_j (by omega) (by decide)), nI_clamp (by omega), f1, e12, grd_t (inb_j (by omega) (by decide)), nI_clamp (by omega), f2, p', e13]
    simp only [bnd1_s, letv]
    rw [v1, hb]
    by_cases c1 : mI σ 39 (12 + i) = 0
    · rw [if_pos c1, if_neg ne10]
      by_cases c2 : mI σ 39 i = 0
      · rw [if_pos c2, if_neg ne10]
        refine ⟨(x, y, nI (12 + (i + 1)), s), rfl, ?_, rfl, h3⟩
        simp only [c1, c2, decide_true, Bool.not_true, Bool.and_false, if_neg f10]
        exact h1'
      · rw [if_neg c2, if_pos rfl]
        simp only [c1, c2, decide_true, decide_false, Bool.not_false, Bool.and_self, if_true]
        cases o with
        | none =>
          cases h1'
          rw [if_pos (Int32.lt_of_lt_of_le (by decide) (nI_pos' (show lgM σ (12 + i) < 2 ^ 31 by omega)))]
          exact ⟨(_, _, _, _), rfl, rfl, rfl, h3.t F'⟩
        | some bm =>
          obtain ⟨b, m⟩ := bm
          obtain ⟨-, hm2⟩ := hlt b m rfl
          cases h1'
          by_cases c : lgM σ (12 + i) ≤ m
          · rw [if_neg (nI_nlt c (by omega))]
            refine ⟨(_, _, _, _), rfl, ?_, rfl, h3.t F'⟩
            simp only [if_pos c]
            rfl
          · rw [if_pos (nI_lt (by omega) (by omega))]
            refine ⟨(_, _, _, _), rfl, ?_, rfl, h3.t F'⟩
            simp only [if_neg c]
            rfl
    · rw [if_neg c1, if_pos rfl]
      refine ⟨(x, y, nI (12 + (i + 1)), s), rfl, ?_, rfl, h3⟩
      simp only [c1, decide_false, Bool.false_and, if_neg f10]
      exact h1'
  · rintro k ⟨x, y, z, s⟩ ⟨h1, h2, h3⟩
    have hz : z = nI 144 := h2
    subst hz
    refine ⟨(x, y, s), ?_, h1, h3⟩
    show B_Mo_donkey_l24 N a1 (L_Mo_donkey_l24 N a1 k) x y (nI 144) s = _
    unfold B_Mo_donkey_l24
    rw [if_pos (by decide)]
theorem nIm2 {c : Nat} (h : c < 2 ^ 31) : nI c ≠ -2 := by
  intro z
  have h1 := nI_pos (n := c) h
  rw [z] at h1
  exact h1 (by decide)
theorem st_donkey {N : Nat} (hN : 70000 ≤ N) : St_donkey N := by
  intro σ a1 hI
  unfold f_Sh_donkey f_Mo_donkey
  rcases in_casesB a1 1 (by decide) with ⟨g, g'⟩ | ⟨g, g1, g2, a, ha, rfl⟩
  · have g : f_Mo_in a1 0 1 = some 0 := g
    refine ⟨-1, σ, σ, ?_, by rw [g]; rfl, hI⟩
    rcases g' with g' | ⟨g', g2⟩
    · rw [if_pos g']
    · rw [if_neg g', if_neg (show ¬ a1 ≤ 1 from g2)]
  · have g : f_Mo_in (nI a) 0 1 = some 1 := g
    obtain ⟨σ1, t1, I1, R1⟩ := today_ok hN hI
    obtain ⟨σ2, p2, D2, I2, R2, F2⟩ := mo_laysDay hN I1 R1
    have hc := sh_donkeyL (N := N) (by omega) I1 R1 (nI a)
    obtain ⟨⟨x, y, s⟩, m1, m2, m3⟩ := mo_donkeyL (N := N) (by omega) D2 (nI a)
    change (x, y) = _ at m2
    change Fr _ _ σ2 s at m3
    have r38 : mI σ2 38 = mI σ1 38 := F2.rowI 38 (by decide) (by simp)
    have r39 : mI σ2 39 = mI σ1 39 := F2.rowI 39 (by decide) (by simp)
    have eB : dkB σ2 = dkB σ1 := by unfold dkB; rw [r39]
    have eL : lgM σ2 = lgM σ1 := funext fun q => by unfold lgM; rw [shB_k r38 r39]
    rw [eB, eL] at m2
    have hlt := dkS_lt (dkB σ1) (lgM σ1) (lgM_le σ1) 132
    generalize dkS (dkB σ1) (lgM σ1) 132 = o at hc m2 hlt
    rw [if_neg g1, if_pos (show nI a ≤ 1 from g2), t1]
    simp only [bnd1_s]
    rw [hc]
    simp only [bnd1_s]
    refine ⟨if nI a = 0 then (dkC o).1 else (dkC o).2, σ1, s, ?_, ?_, I2.k (m3.keeps (by decide))⟩
    · show (if nI a = 0 then some ((dkC o).1, σ1) else some ((dkC o).2, σ1)) = _
      by_cases c : nI a = 0
      · rw [if_pos c, if_pos c]
      · rw [if_neg c, if_neg c]
    · rw [g, p2]
      simp only [bnd1_s, if_neg ne10]
      rw [m1]
      simp only [bnd1_s, q3]
      cases o with
      | none =>
        cases m2
        rw [if_pos rfl]
        by_cases c : nI a = 0
        · rw [if_pos c]; rfl
        · rw [if_neg c]; rfl
      | some bm =>
        obtain ⟨b, m⟩ := bm
        cases m2
        obtain ⟨hb, -⟩ := hlt b m rfl
        rw [if_neg (nIm2 (by omega))]
        by_cases c : nI a = 0
        · rw [if_pos c, if_pos c]; rfl
        · rw [if_neg c, if_neg c]; rfl
