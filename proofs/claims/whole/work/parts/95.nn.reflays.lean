-- part nn: the reference's sale as a whole
theorem RT.k {σ σ' : Mem} {m S : Nat} {v : Option Nat} (g : RT σ m S v) (h1 : mI σ' 95 S = mI σ 95 S) (h2 : mL σ' 96 S = mL σ 96 S) : RT σ' m S v := by
  unfold RT at g ⊢
  rw [h1, h2]; exact g
theorem sbs_le {S m : Nat} (h : sbs S m) : S ≤ m := by
  have e : S &&& m = S := Nat.eq_of_testBit_eq fun j => by
    rw [Nat.testBit_and]
    cases c : S.testBit j with
    | false => rfl
    | true => rw [h j c]; rfl
  have l : S &&& m ≤ m := Nat.and_le_right
  omega
theorem mo_sells {N m p : Nat} {sh : Nat → Bool} {w : Nat → Nat → Nat} {σ : Mem} {T : Nat → Option Nat} (hN : 1000 < N) (hm : m < 256) (hp : p < 144) (hsh : sh p = true) (hw : ∀ b q, w b q ≤ 999) (hT : Bd m 7992 T) (h97 : ∀ b, b < 8 → m.testBit b = true → mL σ 97 b = lN (PR (RM m) (7 - b))) (h98 : ∀ b, b < 8 → m.testBit b = true → mI σ 98 b = nI (w b p)) (h95 : ∀ S, S < 256 → sbs S m → RT σ m S (T S)) : ∃ σ', f_Mo_sells N σ (nI m) (nI p) = some σ' ∧ ∀ S, S < 256 → sbs S m → RT σ' m S (DB (oR m sh w) T p S 8) := by
  refine loopR (L := fun z (x : Int32 × Mem) => L_Mo_sells_l2 N (nI m) (nI p) z x.1 x.2) (P := fun i x => x.1 = nI (m - i) ∧ Fr [95, 96] [] σ x.2 ∧ ∀ S, S < 256 → sbs S m → RT x.2 m S (if m - i < S then DB (oR m sh w) T p S 8 else T S)) (a := (nI m, σ)) m ?_ ?_ (by omega) ⟨rfl, Fr.rf _ _ _, fun S g1 g2 => by have := sbs_le g2; rw [if_neg (by omega)]; exact h95 S g1 g2⟩
  · rintro z i ⟨x, s⟩ hi ⟨h1, h2, h3⟩
    change x = _ at h1
    change Fr _ _ σ s at h2
    subst h1
    right
    have ed : nI (m - i) + (-1) = nI (m - (i + 1)) := by
      rw [← Int32.sub_eq_add_neg]
      exact (pk_sub (a := m - i) (b := 1) (by omega)).trans (by congr 1)
    by_cases c : sbs (m - i) m
    · obtain ⟨s', s1, s2, s3, s4⟩ := mo_sellsL (N := N) (σ := s) (T := T) (p := p) (m := m) (S := m - i) (sh := sh) (w := w) hN hp hsh hw (by omega) c hT (fun b hb hbm => (h2.L 97 b (by decide) (by simp)).trans (h97 b hb hbm)) (fun b hb hbm => (h2.I 98 b (by decide) (by simp)).trans (h98 b hb hbm)) (fun S' g1 g2 g3 => by have := h3 S' g1 g2; rw [if_neg (by omega)] at this; exact this)
      refine ⟨(nI (m - (i + 1)), s'), ?_, rfl, h2.t s2, fun S g1 g2 => ?_⟩
      · show B_Mo_sells_l2 N (nI m) (nI p) (L_Mo_sells_l2 N (nI m) (nI p) z) (nI (m - i)) s = _
        unfold B_Mo_sells_l2
        rw [if_neg (show ¬ nI (m - i) ≤ 0 from nI_ge (a := 0) (by omega) (by omega)), if_pos ((andn0 (by omega)).mpr c), s1, ed]
        rfl
      · show RT s' m S _
        by_cases d : S = m - i
        · rw [d, if_pos (by omega)]; exact s3
        · have e : (if m - (i + 1) < S then DB (oR m sh w) T p S 8 else T S) = (if m - i < S then DB (oR m sh w) T p S 8 else T S) := by
            by_cases q : m - i < S
            · rw [if_pos q, if_pos (by omega)]
            · rw [if_neg q, if_neg (by omega)]
          rw [e]
          exact (h3 S g1 g2).k (s4 S d).1 (s4 S d).2
    · refine ⟨(nI (m - (i + 1)), s), ?_, rfl, h2, fun S g1 g2 => ?_⟩
      · show B_Mo_sells_l2 N (nI m) (nI p) (L_Mo_sells_l2 N (nI m) (nI p) z) (nI (m - i)) s = _
        unfold B_Mo_sells_l2
        rw [if_neg (show ¬ nI (m - i) ≤ 0 from nI_ge (a := 0) (by omega) (by omega)), if_neg (fun z => c ((andn0 (by omega)).mp z)), ed]
        rfl
      · have d : S ≠ m - i := fun z => c (by rw [← z]; exact g2)
        have e : (if m - (i + 1) < S then DB (oR m sh w) T p S 8 else T S) = (if m - i < S then DB (oR m sh w) T p S 8 else T S) := by
          by_cases q : m - i < S
          · rw [if_pos q, if_pos (by omega)]
          · rw [if_neg q, if_neg (by omega)]
        rw [e]
        exact h3 S g1 g2
  · rintro z ⟨x, s⟩ ⟨h1, h2, h3⟩
    change x = _ at h1
    subst h1
    refine ⟨s, ?_, fun S g1 g2 => ?_⟩
    · show B_Mo_sells_l2 N (nI m) (nI p) _ (nI (m - m)) s = _
      unfold B_Mo_sells_l2
      rw [Nat.sub_self, if_pos (by decide)]
    · have := h3 S g1 g2
      by_cases q : m - m < S
      · rw [if_pos q] at this; exact this
      · rw [if_neg q] at this
        have e : S = 0 := by omega
        subst e
        rw [DB_zero]; exact this
theorem mo_l6 {N m : Nat} {σ : Mem} {a1 : Int32} (hN : 1000 < N) (hm : m < 256) : ∃ σ', L_Mo_laysSale_l6 N a1 (nI m) N 1 7 σ = some σ' ∧ Fr [97] [] σ σ' ∧ ∀ b, b < 8 → m.testBit b = true → mL σ' 97 b = lN (PR (RM m) (7 - b)) := by
  refine loopR (L := fun z (x : Int64 × Int32 × Mem) => L_Mo_laysSale_l6 N a1 (nI m) z x.1 x.2.1 x.2.2) (P := fun i x => x.1 = lN (PR (RM m) i) ∧ x.2.1 = (if i < 8 then nI (7 - i) else -1) ∧ Fr [97] [] σ x.2.2 ∧ ∀ b, b < 8 → 7 - b < i → m.testBit b = true → mL x.2.2 97 b = lN (PR (RM m) (7 - b))) (a := (1, 7, σ)) 8 ?_ ?_ (by omega) ⟨rfl, rfl, Fr.rf _ _ _, fun b _ hb => absurd hb (Nat.not_lt_zero _)⟩
  · rintro z i ⟨x, y, s⟩ hi ⟨h1, h2, h3, h4⟩
    change x = _ at h1
    change y = _ at h2
    change Fr _ _ σ s at h3
    subst h1
    rw [if_pos hi] at h2
    subst h2
    right
    have hdn : nI (7 - i) + (-1) = if i + 1 < 8 then nI (7 - (i + 1)) else -1 := by
      have : ∀ j, j < 8 → nI (7 - j) + (-1) = if j + 1 < 8 then nI (7 - (j + 1)) else -1 := by decide
      exact this i hi
    refine ⟨(lN (PR (RM m) (i + 1)), nI (7 - i) + (-1), sL s 97 (7 - i) (if m.testBit (7 - i) = true then lN (PR (RM m) i) else 0)), ?_, rfl, hdn, h3.aL rfl (by decide), fun b hb hbi hbm => ?_⟩
    · show B_Mo_laysSale_l6 N a1 (nI m) (L_Mo_laysSale_l6 N a1 (nI m) z) (lN (PR (RM m) i)) (nI (7 - i)) s = _
      unfold B_Mo_laysSale_l6
      rw [if_neg (nI_pos (by omega)), mo_has, stands_bit (by omega) (by omega), nI_clamp (by omega)]
      have gi := inb_j (show 7 - i < 8 by omega) (show 8 < 2 ^ 31 by decide)
      have hP : PR (RM m) (i + 1) = PR (RM m) i * RM m (7 - i) := rfl
      rw [hP]
      unfold RM
      by_cases c : m.testBit (7 - i) = true
      · simp only [if_pos c, bnd1_s, letv, if_neg ne10, grd_t gi]
        rw [show (145 : Int64) = lN 145 from rfl, lN_mul]
      · simp only [if_neg c, bnd1_s, letv, if_true, grd_t gi, Nat.mul_one]
    · show mL (sL s 97 (7 - i) _) 97 b = _
      rw [rdL]
      by_cases d : b = 7 - i
      · rw [if_pos ⟨rfl, d⟩, ← d, if_pos hbm, show 7 - b = i by omega]
      · rw [if_neg (fun z => d z.2)]; exact h4 b hb (by omega) hbm
  · rintro z ⟨x, y, s⟩ ⟨h1, h2, h3, h4⟩
    change y = _ at h2
    rw [if_neg (by decide)] at h2
    subst h2
    refine ⟨s, ?_, h3, fun b hb hbm => h4 b hb (by omega) hbm⟩
    show B_Mo_laysSale_l6 N a1 (nI m) _ x (-1) s = _
    unfold B_Mo_laysSale_l6
    rw [if_pos (by decide)]
theorem mo_l60 {N m : Nat} {σ : Mem} {a1 a2 : Int32} {o : Nat → Nat → Option Nat} (hN : 1000 < N) : ∃ σ', L_Mo_laysSale_l60 N a1 a2 N 0 σ = some σ' ∧ Fr [95, 96] [] σ σ' ∧ ∀ S, S < 256 → RT σ' m S (DD o 0 S) := by
  refine loopR (L := fun z (x : Int32 × Mem) => L_Mo_laysSale_l60 N a1 a2 z x.1 x.2) (P := fun i x => x.1 = nI i ∧ Fr [95, 96] [] σ x.2 ∧ ∀ S, S < i → RT x.2 m S (DD o 0 S)) (a := (0, σ)) 256 ?_ ?_ (by omega) ⟨rfl, Fr.rf _ _ _, fun S h => absurd h (Nat.not_lt_zero S)⟩
  · rintro z i ⟨x, s⟩ hi ⟨h1, h2, h3⟩
    change x = _ at h1
    change Fr _ _ σ s at h2
    subst h1
    right
    refine ⟨(nI (i + 1), sL (sI s 95 i (if i = 0 then 0 else -1)) 96 i 0), ?_, rfl, (h2.aI rfl (by decide)).aL rfl (by decide), fun S hS => ?_⟩
    · show B_Mo_laysSale_l60 N a1 a2 (L_Mo_laysSale_l60 N a1 a2 z) (nI i) s = _
      unfold B_Mo_laysSale_l60
      rw [if_neg (show ¬ ((256 : Int32) ≤ nI i) from nI_ge (b := 256) hi (by decide)), nI_clamp (by omega)]
      have g := inb_j hi (show 256 < 2 ^ 31 by decide)
      by_cases c : i = 0
      · rw [if_pos (show nI i = 0 by rw [c]; rfl), if_pos c]
        simp only [bnd1_s, letv, grd_t g, nI_1]
      · rw [if_neg (show ¬ nI i = 0 from fun q => c ((nI_eq (b := 0) (by omega) (by decide)).mp q)), if_neg c]
        simp only [bnd1_s, letv, grd_t g, nI_1]
    · by_cases d : S = i
      · subst d
        show RT (sL (sI s 95 S (if S = 0 then 0 else -1)) 96 S 0) m S (DD o 0 S)
        by_cases c : S = 0
        · have e : DD o 0 S = some 0 := by show (if S = 0 then some 0 else none) = _; rw [if_pos c]
          rw [e]
          have hU : UF m 0 = 0 := by
            rw [UF_HR]
            have : ∀ n, HR (RM m) (dF 0) n = 0 := fun n => by
              induction n with
              | zero => rfl
              | succ n ih => show HR (RM m) (dF 0) n * RM m n + dF 0 n = 0; rw [ih]; unfold dF; rw [Nat.zero_testBit, if_neg (by decide)]; omega
            exact this 8
          refine RT_s.mpr ⟨?_, ?_⟩
          · rw [mI_sL, rdI, if_pos ⟨rfl, rfl⟩, if_pos c, Nat.zero_div]; rfl
          · rw [rdL, if_pos ⟨rfl, rfl⟩, c, hU, Nat.zero_mod]; rfl
        · have e : DD o 0 S = none := by show (if S = 0 then some 0 else none) = _; rw [if_neg c]
          rw [e]
          rw [RT_n]
          rw [mI_sL, rdI, if_pos ⟨rfl, rfl⟩, if_neg c]
      · exact (h3 S (by omega)).k (by rw [mI_sL, rdI, if_neg (fun z => d z.2)]) (by rw [rdL, if_neg (fun z => d z.2), mL_sI])
  · rintro z ⟨x, s⟩ ⟨h1, h2, h3⟩
    change x = _ at h1
    subst h1
    refine ⟨s, ?_, h2, h3⟩
    show B_Mo_laysSale_l60 N a1 a2 _ (nI 256) s = _
    unfold B_Mo_laysSale_l60
    rw [if_pos (by decide)]
section SaleM
variable {N : Nat} {σ0 : Mem} {W : LW} {h : Nat}
abbrev FQ (σ σ' : Mem) : Prop := Fr [84, 85, 95, 96, 97, 98] [(65, 53), (65, 54)] σ σ'
theorem fq_worth (hN : 1000 < N) (hI : Inv N σ0) (hR : Rdy σ0) (hL : DayL N σ0 W) (hD : DayEq σ0) (hh : h < 24) {σ : Mem} (F : FQ σ0 σ) {b q : Nat} (hb : b < 8) (hq : q < 144) : ∃ σ', f_Mo_worthOf N σ (nI b) (nI q) (nI h) = some (nI (wF W σ0 h b q), σ') := by
  obtain ⟨s, e⟩ := mo_worthOf (N := N) (σ := σ) (W := W) (by omega) (hI.k (F.keeps (by decide))) (hR.k (F.keeps (by decide))) (hL.k (F.keeps (by decide))) (hD.k (F.keeps (by decide))) hb hh hq
  rw [wth_k W (F.I 19 8 (by decide) (by decide)) (F.rowI 38 (by decide) (by decide)) (F.rowI 39 (by decide) (by decide)) (F.rowI 48 (by decide) (by decide)), (wF_ok W σ0 h b q).2] at e
  exact ⟨s, e⟩
theorem fq_who (hD : DayEq σ0) (hh : h < 24) {σ : Mem} (F : FQ σ0 σ) {q : Nat} (hq : q < 144) : f_Mo_whoOn σ (nI h) (nI q) = some (who σ0 h q) := by
  rw [mo_whoOn (hD.k (F.keeps (by decide))) hh hq, who_k (F.rowI 38 (by decide) (by decide)) (F.rowI 39 (by decide) (by decide))]
theorem mo_l126 (hN : 1000 < N) (hI : Inv N σ0) (hR : Rdy σ0) (hL : DayL N σ0 W) (hD : DayEq σ0) (hh : h < 24) {m p : Nat} (hm : m < 256) (hp : p < 144) {σ : Mem} (F : FQ σ0 σ) : ∃ σ', L_Mo_laysSale_l126 N (nI h) (nI m) (nI p) N 0 σ = some σ' ∧ Fr [84, 85, 98] [] σ σ' ∧ ∀ b, b < 8 → m.testBit b = true → mI σ' 98 b = nI (wF W σ0 h b p) := by
  refine loopR (L := fun z (x : Int32 × Mem) => L_Mo_laysSale_l126 N (nI h) (nI m) (nI p) z x.1 x.2) (P := fun i x => x.1 = nI i ∧ Fr [84, 85, 98] [] σ x.2 ∧ ∀ b, b < i → m.testBit b = true → mI x.2 98 b = nI (wF W σ0 h b p)) (a := (0, σ)) 8 ?_ ?_ (by omega) ⟨rfl, Fr.rf _ _ _, fun b hb => absurd hb (Nat.not_lt_zero b)⟩
  · rintro z i ⟨x, s⟩ hi ⟨h1, h2, h3⟩
    change x = _ at h1
    change Fr _ _ σ s at h2
    change ∀ b, b < i → m.testBit b = true → mI s 98 b = nI (wF W σ0 h b p) at h3
    subst h1
    right
    have gi := inb_j hi (show 8 < 2 ^ 31 by decide)
    by_cases c : m.testBit i = true
    · obtain ⟨s1, q1⟩ := fq_worth hN hI hR hL hD hh (F.c h2 (by decide) (by simp)) hi hp
      have F1 := fm_Mo_worthOf q1
      refine ⟨(nI (i + 1), sI s1 98 i (nI (wF W σ0 h i p))), ?_, rfl, (h2.c F1 (by decide) (by simp)).aI rfl (by decide), fun b hb hbm => ?_⟩
      · show B_Mo_laysSale_l126 N (nI h) (nI m) (nI p) (L_Mo_laysSale_l126 N (nI h) (nI m) (nI p) z) (nI i) s = _
        unfold B_Mo_laysSale_l126
        rw [if_neg (show ¬ ((8 : Int32) ≤ nI i) from nI_ge (b := 8) hi (by decide)), mo_has, stands_bit (by omega) (by omega), nI_clamp (by omega)]
        simp only [bnd1_s, if_pos c, if_neg ne10]
        rw [q1]
        simp only [bnd1_s, bnd2_s, q2, letv, grd_t gi, nI_1]
      · show mI (sI s1 98 i _) 98 b = _
        rw [rdI]
        by_cases d : b = i
        · rw [if_pos ⟨rfl, d⟩, d]
        · rw [if_neg (fun z => d z.2), F1.I 98 b (by decide) (by simp)]
          exact h3 b (by omega) hbm
    · refine ⟨(nI (i + 1), sI s 98 i 0), ?_, rfl, h2.aI rfl (by decide), fun b hb hbm => ?_⟩
      · show B_Mo_laysSale_l126 N (nI h) (nI m) (nI p) (L_Mo_laysSale_l126 N (nI h) (nI m) (nI p) z) (nI i) s = _
        unfold B_Mo_laysSale_l126
        rw [if_neg (show ¬ ((8 : Int32) ≤ nI i) from nI_ge (b := 8) hi (by decide)), mo_has, stands_bit (by omega) (by omega), nI_clamp (by omega)]
        simp only [bnd1_s, if_neg c, if_true, q2, letv, grd_t gi, nI_1]
      · show mI (sI s 98 i _) 98 b = _
        rw [rdI]
        by_cases d : b = i
        · rw [d] at hbm; exact absurd hbm c
        · rw [if_neg (fun z => d z.2)]
          exact h3 b (by omega) hbm
  · rintro z ⟨x, s⟩ ⟨h1, h2, h3⟩
    change x = _ at h1
    subst h1
    refine ⟨s, ?_, h2, h3⟩
    show B_Mo_laysSale_l126 N (nI h) (nI m) (nI p) _ (nI 8) s = _
    unfold B_Mo_laysSale_l126
    rw [if_pos (by decide)]
theorem mo_l102 (hN : 1000 < N) (hI : Inv N σ0) (hR : Rdy σ0) (hL : DayL N σ0 W) (hD : DayEq σ0) (hh : h < 24) {m : Nat} (hm : m < 256) {σ : Mem} (F : FQ σ0 σ) (h97 : ∀ b, b < 8 → m.testBit b = true → mL σ 97 b = lN (PR (RM m) (7 - b))) (h95 : ∀ S, S < 256 → sbs S m → RT σ m S (DD (oR m (shF σ0 h) (wF W σ0 h)) 0 S)) : ∃ σ', L_Mo_laysSale_l102 N (nI h) (nI m) N 0 σ = some σ' ∧ Fr [84, 85, 95, 96, 98] [] σ σ' ∧ ∀ S, S < 256 → sbs S m → RT σ' m S (DD (oR m (shF σ0 h) (wF W σ0 h)) 144 S) := by
  refine loopR (L := fun z (x : Int32 × Mem) => L_Mo_laysSale_l102 N (nI h) (nI m) z x.1 x.2) (P := fun i x => x.1 = nI i ∧ Fr [84, 85, 95, 96, 98] [] σ x.2 ∧ ∀ S, S < 256 → sbs S m → RT x.2 m S (DD (oR m (shF σ0 h) (wF W σ0 h)) i S)) (a := (0, σ)) 144 ?_ ?_ (by omega) ⟨rfl, Fr.rf _ _ _, h95⟩
  · rintro z p ⟨x, s⟩ hp ⟨h1, h2, h3⟩
    change x = _ at h1
    change Fr _ _ σ s at h2
    change ∀ S, S < 256 → sbs S m → RT s m S _ at h3
    subst h1
    right
    have G : FQ σ0 s := F.c h2 (by decide) (by simp)
    by_cases c : who σ0 h p = 0
    · refine ⟨(nI (p + 1), s), ?_, rfl, h2, fun S g1 g2 => ?_⟩
      · show B_Mo_laysSale_l102 N (nI h) (nI m) (L_Mo_laysSale_l102 N (nI h) (nI m) z) (nI p) s = _
        unfold B_Mo_laysSale_l102
        rw [if_neg (show ¬ ((144 : Int32) ≤ nI p) from nI_ge (b := 144) hp (by decide)), fq_who hD hh G hp]
        simp only [bnd1_s, if_pos c, letv, nI_1]
      · show RT s m S (DB _ _ p S 8)
        rw [DB_none (fun b _ => by unfold oR shF; rw [if_neg (by simp [c])]) 8 (Nat.le_refl 8)]
        exact h3 S g1 g2
    · obtain ⟨s1, q1, q2, q3⟩ := mo_l126 hN hI hR hL hD hh hm hp G
      obtain ⟨s2, p1, p2⟩ := mo_sells (N := N) (σ := s1) (m := m) (p := p) (sh := shF σ0 h) (w := wF W σ0 h) (T := DD (oR m (shF σ0 h) (wF W σ0 h)) p) hN hm hp (by unfold shF; simp [c]) (fun b q => (wF_ok W σ0 h b q).1) (DDR_bd (fun b q => (wF_ok W σ0 h b q).1)) (fun b hb hbm => (q2.L 97 b (by decide) (by simp)).trans ((h2.L 97 b (by decide) (by simp)).trans (h97 b hb hbm))) q3 (fun S g1 g2 => (h3 S g1 g2).k (q2.I 95 S (by decide) (by simp)) (q2.L 96 S (by decide) (by simp)))
      have F2 := fm_Mo_sells p1
      refine ⟨(nI (p + 1), s2), ?_, rfl, (h2.c q2 (by decide) (by simp)).c F2 (by decide) (by simp), p2⟩
      show B_Mo_laysSale_l102 N (nI h) (nI m) (L_Mo_laysSale_l102 N (nI h) (nI m) z) (nI p) s = _
      unfold B_Mo_laysSale_l102
      rw [if_neg (show ¬ ((144 : Int32) ≤ nI p) from nI_ge (b := 144) hp (by decide)), fq_who hD hh G hp]
      simp only [bnd1_s, if_neg c]
      rw [q1]
      simp only [bnd1_s]
      rw [p1]
      simp only [bnd1_s, letv, nI_1]
  · rintro z ⟨x, s⟩ ⟨h1, h2, h3⟩
    change x = _ at h1
    subst h1
    refine ⟨s, ?_, h2, h3⟩
    show B_Mo_laysSale_l102 N (nI h) (nI m) _ (nI 144) s = _
    unfold B_Mo_laysSale_l102
    rw [if_pos (by decide)]
end SaleM
theorem mo_keyOf {N m S k : Nat} {σ : Mem} (hN : 1000 < N) (hm : m < 256) (hS : S < 256) (hSm : sbs S m) (hk : k ≤ UF m S) (h96 : mL σ 96 S = lN (UF m S - k)) (h97 : ∀ b, b < 8 → m.testBit b = true → mL σ 97 b = lN (PR (RM m) (7 - b))) : f_Mo_keyOf N σ (nI m) (nI S) = some (lN (UF m m - k)) := by
  obtain ⟨w', w1, w2, w3⟩ := andnS (w := m) (S := S) (by omega)
  have hsum : UF m m = sumN (fun b => dF w' b * PR (RM m) (7 - b)) 8 * 1 + UF m S := by
    refine sumN_lin 8 (fun i hi => ?_)
    show dF m i * _ = dF w' i * _ * 1 + dF S i * _
    unfold dF
    rw [w3]
    cases c : S.testBit i with
    | true => rw [hSm i c]; simp
    | false => cases d : m.testBit i <;> simp
  unfold f_Mo_keyOf
  rw [grd_t (inb_j hS (by decide)), nI_clamp (by omega), h96]
  simp only [letv]
  rw [show UF m m - k = UF m S - k + sumN (fun b => dF w' b * PR (RM m) (7 - b)) 8 by omega]
  refine loopS (L := fun z (x : Int64 × Int32) => L_Mo_keyOf_l10 N (nI m) (nI S) σ z x.1 x.2) (fun i => (lN (UF m S - k + sumN (fun b => dF w' b * PR (RM m) (7 - b)) i), nI i)) _ 8 (fun z i hi => ?_) (fun z => ?_) (by omega)
  · show B_Mo_keyOf_l10 N (nI m) (nI S) σ (L_Mo_keyOf_l10 N (nI m) (nI S) σ z) (lN _) (nI i) = L_Mo_keyOf_l10 N (nI m) (nI S) σ z (lN _) (nI (i + 1))
    unfold B_Mo_keyOf_l10
    rw [if_neg (show ¬ ((8 : Int32) ≤ nI i) from nI_ge (b := 8) hi (by decide)), w2, mo_has, stands_bit (by omega) (by omega), nI_clamp (by omega), sumN_succ _ i]
    have gi := inb_j hi (show 8 < 2 ^ 31 by decide)
    cases c : w'.testBit i with
    | true =>
      have hbm : m.testBit i = true := by rw [w3] at c; cases d : m.testBit i with
        | true => rfl
        | false => rw [d] at c; cases c
      rw [h97 i hi hbm, show (144 : Int64) = lN 144 from rfl, lN_mul, lN_add, show dF w' i = 144 by unfold dF; rw [c]; rfl, Nat.add_assoc]
      simp only [bnd1_s, if_true, if_neg ne10, letv, grd_t gi, nI_1]
    | false =>
      rw [show dF w' i = 0 by unfold dF; rw [c]; rfl, Nat.zero_mul, Nat.add_zero]
      simp only [bnd1_s, if_neg f10, if_true, letv, nI_1]
  · show B_Mo_keyOf_l10 N (nI m) (nI S) σ _ (lN _) (nI 8) = _
    unfold B_Mo_keyOf_l10
    rw [if_pos (by decide)]
