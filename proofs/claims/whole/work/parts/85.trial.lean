-- ===== a trial: a caster as it would be =====
theorem tb_ne0 {w : Nat} : w ≠ 0 ↔ ∃ j, w.testBit j = true := by
  constructor
  · intro h
    by_cases c : ∃ j, w.testBit j = true
    · exact c
    · exfalso
      apply h
      apply Nat.eq_of_testBit_eq
      intro i
      rw [Nat.zero_testBit]
      cases hb : w.testBit i with
      | false => rfl
      | true => exact absurd ⟨i, hb⟩ c
  · rintro ⟨j, h⟩ rfl
    rw [Nat.zero_testBit] at h
    cases h
theorem clr1 : ∀ c, c < 16 → (((1 : Int32) <<< (nI c &&& 31)) ^^^ (-1)).toBitVec.toNat = 4294967295 - 2 ^ c := by decide +kernel
theorem clr2 : ∀ c, c < 16 → ∀ j, j < 16 → (4294967295 - 2 ^ c).testBit j = decide (j ≠ c) := by decide +kernel
theorem andn {w c : Nat} (hw : w < 65536) (hc : c < 16) : ∃ w' : Nat, w' ≤ w ∧ nI w &&& (((1 : Int32) <<< (nI c &&& 31)) ^^^ (-1)) = nI w' ∧ ∀ j, w'.testBit j = (w.testBit j && decide (j ≠ c)) := by
  have h := fa_and w (((1 : Int32) <<< (nI c &&& 31)) ^^^ (-1)).toBitVec.toNat
  rw [← of32 (((1 : Int32) <<< (nI c &&& 31)) ^^^ (-1)), clr1 c hc] at h
  refine ⟨_, Nat.and_le_left, h, fun j => ?_⟩
  rw [Nat.testBit_and]
  by_cases hj : j < 16
  · rw [clr2 c hc j hj]
  · have : w.testBit j = false := Nat.testBit_lt_two_pow (Nat.lt_of_lt_of_le hw (Nat.pow_le_pow_right (n := 2) (by decide) (show 16 ≤ j by omega)))
    rw [this]
    rfl
theorem nI_z {w : Nat} (h : w < 65536) : nI w = 0 ↔ w = 0 := nI_eq (b := 0) (by omega) (by decide)
theorem rch_trial {s : Int32} {k p z d k' p' z' d' : Nat → Int32} {e n : Int32} {sq m c : Nat} (hm : m ≤ 16) (hc : c < m) (hs : stands s c = true) (he : ∀ j, j < m → j ≠ c → k' j = k j ∧ p' j = p j ∧ z' j = z j ∧ d' j = d j) : (rch s k' p' z' d' e n sq m ≠ 0) ↔ ((rch s k p z d e n sq m &&& (((1 : Int32) <<< (nI c &&& 31)) ^^^ (-1))) ≠ 0 ∨ hit (hitL (k' c) (p' c) (z' c) (d' c) e n) sq = true) := by
  obtain ⟨w, hw, ew, hb⟩ := rch_bits s k p z d e n sq m hm
  obtain ⟨w', hw', ew', hb'⟩ := rch_bits s k' p' z' d' e n sq m hm
  have hw16 : w < 65536 := Nat.lt_of_lt_of_le hw (Nat.pow_le_pow_right (n := 2) (by decide) hm)
  have hw16' : w' < 65536 := Nat.lt_of_lt_of_le hw' (Nat.pow_le_pow_right (n := 2) (by decide) hm)
  obtain ⟨v, hv, ev, hvb⟩ := andn hw16 (show c < 16 by omega)
  rw [ew, ew', ev, ne_eq, ne_eq, nI_z hw16', nI_z (by omega)]
  rw [← ne_eq, ← ne_eq, tb_ne0, tb_ne0]
  constructor
  · rintro ⟨j, hj⟩
    rw [hb' j] at hj
    simp only [Bool.and_eq_true, decide_eq_true_eq] at hj
    by_cases ej : j = c
    · subst ej
      exact Or.inr hj.2.2
    · left
      refine ⟨j, ?_⟩
      obtain ⟨q1, q2, q3, q4⟩ := he j hj.1 ej
      rw [hvb j, hb j, ← q1, ← q2, ← q3, ← q4]
      simp [hj.1, hj.2.1, hj.2.2, ej]
  · rintro (⟨j, hj⟩ | h)
    · rw [hvb j, hb j] at hj
      simp only [Bool.and_eq_true, decide_eq_true_eq] at hj
      obtain ⟨⟨h1, h2, h3⟩, h4⟩ := hj
      refine ⟨j, ?_⟩
      obtain ⟨q1, q2, q3, q4⟩ := he j h1 h4
      rw [hb' j, q1, q2, q3, q4]
      simp [h1, h2, h3]
    · refine ⟨c, ?_⟩
      rw [hb' c]
      simp [hc, hs, h]
/-- whether somebody casts if c were as the trial -/
def trX (σ : Mem) (c h sq : Nat) : Bool := decide (mI σ 39 sq = 0) && (decide ((who σ h sq &&& (((1 : Int32) <<< (nI c &&& 31)) ^^^ (-1))) ≠ 0) || (decide (mI σ 34 h ≠ 0) && hit (hitL (mI σ 20 16) (mI σ 21 16) (mI σ 22 16) (mI σ 23 16) (mI σ 35 h) (mI σ 36 h)) sq))
theorem trX_k {σ σ' : Mem} (g : Keeps [20, 21, 22, 23, 34, 35, 36, 38, 39] [] σ σ') (c h sq : Nat) : trX σ' c h sq = trX σ c h sq := by
  unfold trX
  rw [g.r 20 (by decide), g.r 21 (by decide), g.r 22 (by decide), g.r 23 (by decide), g.r 34 (by decide), g.r 35 (by decide), g.r 36 (by decide), g.r 39 (by decide), who_k (g.r 38 (by decide)) (g.r 39 (by decide))]
theorem da_layTrial {N : Nat} {σ : Mem} (hN : 1000 < N) (hI : Inv N σ) (hR : Rdy σ) (hz : (mI σ 22 16).toNatClampNeg < 100) {h : Nat} (hh : h < 24) : ∃ σ', f_Da_layTrial N σ (nI h) = some σ' ∧ ∀ sq, sq < 144 → mI σ' 40 sq = if (decide (mI σ 34 h ≠ 0) && hit (hitL (mI σ 20 16) (mI σ 21 16) (mI σ 22 16) (mI σ 23 16) (mI σ 35 h) (mI σ 36 h)) sq) = true then 1 else 0 := by
  obtain ⟨s, p, v⟩ := ja_fill (N := N) (σ := σ) (g := 40) (n := 144) 0 (by omega) (by decide)
  have F := fm_JA_fill_53178 p
  have hu := da_isUp (hI.k (F.keeps (by decide))) (hR.k (F.keeps (by decide))) hh
  rw [F.I 34 h (by decide) (by simp)] at hu
  unfold f_Da_layTrial
  rw [p]
  simp only [bnd1_s]
  rw [hu]
  simp only [bnd1_s]
  by_cases c : mI σ 34 h = 0
  · rw [if_pos c]
    refine ⟨s, rfl, fun sq hs => ?_⟩
    rw [v sq, if_pos hs]
    simp [c]
  · rw [if_neg c]
    have hsp := da_spread (N := N) (σ := s) (c := 16) (h := h) (g := 40) (n := 144) (base := 0) (by omega) (by decide) hh (Or.inr rfl) (by decide) (by decide) 1 (by rw [F.I 22 16 (by decide) (by simp)]; exact hz)
    rw [show f_Da_spread N s 16 (nI h) 40 144 0 1 = _ from hsp]
    refine ⟨_, rfl, fun sq hs => ?_⟩
    rw [mkL_at, F.I 20 16 (by decide) (by simp), F.I 21 16 (by decide) (by simp), F.I 22 16 (by decide) (by simp), F.I 23 16 (by decide) (by simp), F.I 35 h (by decide) (by simp), F.I 36 h (by decide) (by simp), v sq, if_pos hs]
    simp only [Nat.sub_zero, Nat.zero_le, Nat.zero_add, hs, true_and, ne_eq, c, not_false_eq_true, decide_true, Bool.true_and]
    by_cases q : hit (hitL (mI σ 20 16) (mI σ 21 16) (mI σ 22 16) (mI σ 23 16) (mI σ 35 h) (mI σ 36 h)) sq = true
    · rw [if_pos q, if_pos q]; decide
    · rw [if_neg q, if_neg q]
theorem da_onTrial {σ σ0 : Mem} {c h sq : Nat} (hh : h < 24) (hs : sq < 144) (F : Fr [40] [] σ0 σ) (h40 : mI σ 40 sq = if (decide (mI σ0 34 h ≠ 0) && hit (hitL (mI σ0 20 16) (mI σ0 21 16) (mI σ0 22 16) (mI σ0 23 16) (mI σ0 35 h) (mI σ0 36 h)) sq) = true then 1 else 0) : f_Da_isShadedOnTrial σ (nI c) (nI h) (nI sq) = some (if trX σ0 c h sq = true then 1 else 0) := by
  unfold f_Da_isShadedOnTrial trX
  rw [da_isFree hs, da_whoCasts hh hs, grd_t (inb_j hs (by decide)), nI_clamp (by omega), h40, F.I 39 sq (by decide) (by simp), who_k (F.rowI 38 (by decide) (by simp)) (F.rowI 39 (by decide) (by simp))]
  simp only [bnd1_s]
  generalize (decide (mI σ0 34 h ≠ 0) && hit (hitL (mI σ0 20 16) (mI σ0 21 16) (mI σ0 22 16) (mI σ0 23 16) (mI σ0 35 h) (mI σ0 36 h)) sq) = T
  generalize who σ0 h sq &&& (((1 : Int32) <<< (nI c &&& 31)) ^^^ (-1)) = V
  by_cases c1 : mI σ0 39 sq = 0
  · rw [if_pos c1, if_neg ne10]
    by_cases c2 : V = 0
    · rw [if_pos c2]
      cases T <;> simp [c1, c2]
    · rw [if_neg c2]
      simp [c1, c2]
  · rw [if_neg c1, if_pos rfl]
    simp [c1]
/-- row 16 is nobody's -/
theorem Inv.row16 {N : Nat} {σ σ' : Mem} (hI : Inv N σ) (F : Fr [20, 21, 22, 23] [] σ σ') (h : ∀ j, j < 16 → mI σ' 20 j = mI σ 20 j ∧ mI σ' 21 j = mI σ 21 j ∧ mI σ' 22 j = mI σ 22 j ∧ mI σ' 23 j = mI σ 23 j) : Inv N σ' := by
  obtain ⟨nt, hnt, e6, e0, -⟩ := hI.mtown
  obtain ⟨⟨k01, k02⟩, k1, k2, k3, k4, k5, n, lt, Hs, Vs, ok, hc, hm, d1, d2⟩ := hI
  refine ⟨⟨?_, ?_⟩, k1.k (F.keeps (by decide)), k2.k (F.keeps (by decide)), k3.k (F.keeps (by decide)), k4.k (F.keeps (by decide)), k5.k (F.keeps (by decide)), n, lt, Hs, Vs, ok, hc.k (F.keeps (by decide)), hm.k (F.keeps (by decide)), ?_, ?_⟩
  · obtain ⟨p1, p2, p3, p4, p5, p6⟩ := k01
    unfold tc tm
    rw [F.I 19 6 (by decide) (by simp), F.I 19 7 (by decide) (by simp), F.I 19 8 (by decide) (by simp), F.I 19 9 (by decide) (by simp), F.I 65 0 (by decide) (by simp), F.I 65 1 (by decide) (by simp), F.I 65 2 (by decide) (by simp), F.I 65 3 (by decide) (by simp), F.rowI 24 (by decide) (by simp), F.rowI 25 (by decide) (by simp), F.rowI 66 (by decide) (by simp), F.rowI 67 (by decide) (by simp), F.rowI 68 (by decide) (by simp), F.rowI 69 (by decide) (by simp), F.rowI 70 (by decide) (by simp), F.rowI 71 (by decide) (by simp)]
    refine ⟨p1, p2, p3, p4, fun c hc => ?_, p6⟩
    obtain ⟨r1, r2, r3, r4, r5⟩ := p5 c hc
    obtain ⟨q1, q2, q3, q4⟩ := h c hc
    exact ⟨q1.trans r1, q2.trans r2, q3.trans r3, q4.trans r4, r5⟩
  · obtain ⟨n', s', p1, p2, p3, p4, p5, p6, p7⟩ := k02
    unfold tc
    rw [F.I 19 6 (by decide) (by simp), F.I 19 7 (by decide) (by simp), F.I 19 8 (by decide) (by simp), F.I 19 9 (by decide) (by simp), F.rowI 24 (by decide) (by simp), F.rowI 25 (by decide) (by simp)]
    refine ⟨n', s', p1, p2, p3, p4, p5, p6, fun c hc => ?_⟩
    obtain ⟨r1, r2, r3, r4, r5⟩ := p7 c hc
    obtain ⟨q1, q2, q3, q4⟩ := h c (by omega)
    simp only [q1, q2, q3, q4]
    exact ⟨r1, r2, r3, r4, r5⟩
  · rw [F.I 33 6 (by decide) (by simp)]
    rcases d1 with d1 | ⟨d1, d3⟩
    · exact Or.inl d1
    · exact Or.inr ⟨d1, d3.k (F.keeps (by decide))⟩
  · rw [F.I 33 9 (by decide) (by simp), F.I 33 6 (by decide) (by simp)]
    rcases d2 with d2 | ⟨d2, d3, d4⟩
    · exact Or.inl d2
    · refine Or.inr ⟨d2, d3, fun sq hs => ?_, fun g hg sq hs => ?_⟩
      · rw [F.I 39 sq (by decide) (by simp), d4.1 sq hs, F.I 19 6 (by decide) (by simp), F.I 19 7 (by decide) (by simp), e6, nI_clamp (by omega), blt_congr (k := mI σ 20) (p := mI σ 21) (k' := mI σ' 20) (p' := mI σ' 21) nt (fun c hc => ⟨(h c (by omega)).1.symm, (h c (by omega)).2.1.symm⟩)]
      · rw [F.I 38 _ (by decide) (by simp), d4.2 g hg sq hs, F.I 34 g (by decide) (by simp), F.I 35 g (by decide) (by simp), F.I 36 g (by decide) (by simp), F.I 19 6 (by decide) (by simp), F.I 19 7 (by decide) (by simp), e6, nI_clamp (by omega), rch_congr (k := mI σ 20) (p := mI σ 21) (z := mI σ 22) (d := mI σ 23) (k' := mI σ' 20) (p' := mI σ' 21) (z' := mI σ' 22) (d' := mI σ' 23) nt (fun c hc => ⟨(h c (by omega)).1.symm, (h c (by omega)).2.1.symm, (h c (by omega)).2.2.1.symm, (h c (by omega)).2.2.2.symm⟩)]
/-- the trial is told -/
def trM (σ : Mem) (c : Nat) (p z : Int32) : Mem := sI (sI (sI (sI σ 20 16 (mI σ 20 c)) 23 16 (mI σ 23 c)) 21 16 p) 22 16 z
theorem to_trial {σ : Mem} {n c : Nat} (hn : n ≤ 16) (e6 : mI σ 19 6 = nI n) (hc : c < n) (p z : Int32) : f_To_trial σ (nI c) p z = some (trM σ c p z) := by
  unfold f_To_trial f_To_isCaster
  rw [e6, if_neg (nI_pos (by omega)), if_neg (nI_ge hc (by omega))]
  simp only [bnd1_s, if_neg ne10, letv]
  rw [grd_t (inb_j (by omega) (by decide)), grd_t (inb_j (by omega) (by decide)), nI_clamp (by omega), sI_n _ _ (by omega)]
  rfl
theorem trM_fr (σ : Mem) (c : Nat) (p z : Int32) : Fr [20, 21, 22, 23] [] σ (trM σ c p z) := by
  unfold trM
  refine Fr.aI ?_ rfl (by decide)
  refine Fr.aI ?_ rfl (by decide)
  refine Fr.aI ?_ rfl (by decide)
  exact (Fr.rf _ _ σ).aI rfl (by decide)
theorem trM_at (σ : Mem) (c : Nat) (p z : Int32) : (∀ j, j < 16 → mI (trM σ c p z) 20 j = mI σ 20 j ∧ mI (trM σ c p z) 21 j = mI σ 21 j ∧ mI (trM σ c p z) 22 j = mI σ 22 j ∧ mI (trM σ c p z) 23 j = mI σ 23 j) ∧ mI (trM σ c p z) 20 16 = mI σ 20 c ∧ mI (trM σ c p z) 21 16 = p ∧ mI (trM σ c p z) 22 16 = z ∧ mI (trM σ c p z) 23 16 = mI σ 23 c := by
  unfold trM
  refine ⟨fun j hj => ⟨?_, ?_, ?_, ?_⟩, ?_, ?_, ?_, ?_⟩ <;> simp only [rdI] <;> simp <;> omega
/-- the reference's day with the caster as it would be -/
theorem mo_trial {N : Nat} {σ σm : Mem} {c nt : Nat} {W : LW} (hN : 70000 ≤ N) (hI : Inv N σ) (hR : Rdy σ) (hL : DayL N σ W) (hm : LawM N σm W.1 W.2.1 W.2.2.1 W.2.2.2) (hnt : nt ≤ 16) (e6 : mI σ 19 6 = nI nt) (hc : c < nt) (hst : stands (mI σ 19 7) c = true) (e0 : mI σm 65 0 = nI nt) (e1 : mI σm 65 1 = mI σ 19 7) (e2 : mI σm 65 2 = mI σ 19 8)
    (hr : ∀ j, j < 16 → j ≠ c → mI σm 66 j = mI σ 20 j ∧ mI σm 67 j = mI σ 21 j ∧ mI σm 68 j = mI σ 22 j ∧ mI σm 69 j = mI σ 23 j) (hrc : mI σm 66 c = mI σ 20 16 ∧ mI σm 67 c = mI σ 21 16 ∧ mI σm 68 c = mI σ 22 16 ∧ mI σm 69 c = mI σ 23 16) (hk : mI σ 20 16 = mI σ 20 c) (hp : mI σ 20 c ≠ 0 ∨ mI σ 21 16 = mI σ 21 c) (hz : ∀ j, j < nt → (mI σm 68 j).toNatClampNeg < 100) : ∃ σ', f_Mo_laysDay N σm = some σ' ∧ ((∀ h, h < 24 → mI σ' 87 h = mI σ 34 h) ∧ (∀ sq, sq < 144 → mI σ' 88 sq = if mI σ 39 sq = 0 then 1 else 0) ∧ ∀ h, h < 24 → ∀ sq, sq < 144 → (mI σ' 86 (144 * h + sq) ≠ 0 ↔ trX σ c h sq = true)) := by
  obtain ⟨-, -, -, -, -, -, -, -, hB⟩ := hI.day hR
  have hS := hL.2.2.2
  obtain ⟨σ', p, v1, v2, v3⟩ := mo_laysDayG (N := N) hN hL.1 hm hnt e0 hz
  have hbl : ∀ sq, blt (mI σm 65 1) (mI σm 66) (mI σm 67) sq nt = blt (mI σ 19 7) (mI σ 20) (mI σ 21) sq nt := fun sq => by
    rw [e1]
    have hcc : ∀ m, m ≤ nt → blt (mI σ 19 7) (mI σm 66) (mI σm 67) sq m = blt (mI σ 19 7) (mI σ 20) (mI σ 21) sq m := by
      intro m
      induction m with
      | zero => intro _; rfl
      | succ m ih =>
        intro hmm
        rw [blt_succ, blt_succ, ih (by omega)]
        by_cases em : m = c
        · subst em
          rw [hrc.1, hrc.2.1, hk]
          rcases hp with hp | hp
          · simp [hp]
          · rw [hp]
        · obtain ⟨r1, r2, -, -⟩ := hr m (by omega) em
          rw [r1, r2]
    exact hcc nt (Nat.le_refl _)
  refine ⟨σ', p, fun h hh => ?_, fun sq hs => ?_, fun h hh sq hs => ?_⟩
  · rw [v1 h hh, e2, (hS h hh).1]
  · rw [v2 sq hs, hbl, hB.1 sq hs, e6, nI_clamp (by omega)]
    cases blt (mI σ 19 7) (mI σ 20) (mI σ 21) sq nt <;> rfl
  · rw [v3 h hh sq hs, hbl, e2, ← (hS h hh).1, ← (hS h hh).2.1, ← (hS h hh).2.2.1, e1]
    have h39 := hB.1 sq hs
    rw [e6, nI_clamp (by omega)] at h39
    unfold trX who
    rw [hB.2 h hh sq hs, e6, nI_clamp (by omega)]
    cases hb : blt (mI σ 19 7) (mI σ 20) (mI σ 21) sq nt with
    | true =>
      rw [hb] at h39
      have : mI σ 39 sq = 1 := h39
      rw [this]
      simp
    | false =>
      rw [hb] at h39
      have h0 : mI σ 39 sq = 0 := h39
      rw [h0]
      by_cases u : mI σ 34 h = 0
      · simp [u]
      · rw [if_neg (by simp [u]), if_pos rfl, if_neg u, rch_trial (k := mI σ 20) (p := mI σ 21) (z := mI σ 22) (d := mI σ 23) hnt hc hst (fun j hj hne => hr j (by omega) hne), hrc.1, hrc.2.1, hrc.2.2.1, hrc.2.2.2]
        simp [u]
theorem Fr.keeps1 {ms : List Nat} {fs : List (Nat × Nat)} {σ σ' : Mem} (h : Fr ms fs σ σ') {RP : List Nat} {FP : List (Nat × Nat)} (x : Nat) (hx : mI σ' x = mI σ x) (hc : (RP.all (fun y => y == x || (!ms.contains y && fs.all (fun q => !(q.1 == y)))) && FP.all (fun q => !ms.contains q.1 && !fs.contains q)) = true) : Keeps RP FP σ σ' := by
  simp only [Bool.and_eq_true, List.all_eq_true, Bool.or_eq_true, beq_iff_eq, Bool.not_eq_true', List.contains_eq_mem, decide_eq_false_iff_not, beq_eq_false_iff_ne, ne_eq] at hc
  refine ⟨fun y hy => ?_, fun q hq => ?_⟩
  · rcases hc.1 y hy with e | h1
    · rw [e]; exact hx
    · exact h.rowI y h1.1 (fun q hq => h1.2 q hq)
  · have h1 := hc.2 q hq
    exact ⟨h.I q.1 q.2 h1.1 h1.2, h.R q.1 q.2 h1.1 h1.2⟩
