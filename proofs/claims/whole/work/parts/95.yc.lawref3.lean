-- ===== the reference: factors =====
section SimF
variable {N n : Nat} {tx : Nat → Int32}
theorem sf_1 (hT : TX n tx) {d p : Nat} (e91 : tx p = 91) (h6 : 6 ≤ d) : SimFac N n tx d p (.inl (5, p)) := by
  intro σ W c x base kf ks hI hkf hks
  obtain ⟨h, hb, hc, hw, hd⟩ := hI
  have hn := hT.1
  have hp : p < n := hT.lt (by rw [e91]; decide)
  obtain ⟨kf, rfl⟩ : ∃ z, kf = z + 1 := ⟨kf - 1, by omega⟩
  rcases mo_opens h hn hp hd (by omega) (o := 14) (x := 14) (by decide) rfl with ⟨z, -⟩ | ⟨z, σ', a1, a2⟩
  · omega
  · exact ⟨σ', mft_deep (by rw [mo_here hT h, e91]) a1, a2⟩
theorem sf_in (hN : 1000 < N) (hT : TX n tx) {d p : Nat} {o : Out} (e91 : tx p = 91) (h6 : d < 6) (S : SimSum N n tx (d + 1) (p + 1) o) {σ : Mem} {W : List (Nat × Nat)} {c x base kf ks : Nat} (hI : EIn n tx σ W d p c x base) (hkf : n - p < kf) (hks : n - p < ks) : ∃ (σ1 : Mem) (R : Option (Int32 × Mem)), MFT N kf ks (nI base) σ = R ∧ EOut N n tx R σ1 c ((14, 0) :: W) (d + 1) (p + 1) x base 2 3 o ∧ mI σ1 73 = mI σ 73 := by
  obtain ⟨h, hb, hc, hw, hd⟩ := hI
  have hn := hT.1
  have hp : p < n := hT.lt (by rw [e91]; decide)
  obtain ⟨kf, rfl⟩ : ∃ z, kf = z + 1 := ⟨kf - 1, by omega⟩
  rcases mo_opens h hn hp hd (by omega) (o := 14) (x := 14) (by decide) rfl with ⟨z, σ1, a1, a2, a3⟩ | ⟨z, -⟩
  · exact ⟨σ1, MFT N kf ks (nI base) σ1, mft_open (by rw [mo_here hT h, e91]) a1, S σ1 ((14, 0) :: W) c x base kf ks ⟨a2, by rw [List.length_cons]; omega, by omega, by rw [List.length_cons]; omega, by omega⟩ (show ¬ clo 1 (nI 14) by decide) (by omega) (by omega), a3⟩
  · omega
theorem sf_2 (hN : 1000 < N) (hT : TX n tx) {d p : Nat} {b : Nat × Nat} (e91 : tx p = 91) (h6 : d < 6) (S : SimSum N n tx (d + 1) (p + 1) (.inl b)) : SimFac N n tx d p (.inl b) := by
  intro σ W c x base kf ks hI hkf hks
  obtain ⟨k, q⟩ := b
  obtain ⟨σ1, R, e, ⟨σ', b1, b2⟩, -⟩ := sf_in hN hT e91 h6 S hI hkf hks
  exact ⟨σ', e.trans b1, b2⟩
theorem sf_3 (hN : 1000 < N) (hT : TX n tx) {d p q : Nat} {g : DN} (e91 : tx p = 91) (h6 : d < 6) (S : SimSum N n tx (d + 1) (p + 1) (.inr (q, g))) (hq : tx q ≠ 93) : SimFac N n tx d p (.inl (1, q)) := by
  intro σ W c x base kf ks hI hkf hks
  have hn := hT.1
  obtain ⟨σ1, R, e, ⟨ks', σ', c', P, e1, e2, e3, e4, e5, e6, e7, e8, e9, f1, f2, f3⟩, -⟩ := sf_in hN hT e91 h6 S hI hkf hks
  obtain ⟨h, hb, hc, hw, hd⟩ := hI
  have hqn : q ≤ n := e3.2.2.2.2.2.2.2
  obtain ⟨k', rfl⟩ : ∃ z, ks' = z + 1 := ⟨ks' - 1, by omega⟩
  rw [List.length_cons] at e6
  obtain ⟨σ2, w1, w2⟩ := mo_wr e3.1 1 1 rfl
  refine ⟨σ2, ?_, w2⟩
  rw [e, e1, mlt_end (mo_here hT e3) (sg_no (f2 (by decide)) (f3 (by decide))) (Or.inl hq)]
  show (bnd1 (f_Mo_hasOpenSum N σ' (nI base)) _) = _
  rw [mo_open hN e3 (by rw [List.length_append, List.length_cons, pw_len]; omega) hb]
  simp only [bnd1_n, if_neg ne10]
  exact w1
theorem sf_4 (hN : 1000 < N) (hT : TX n tx) {d p q : Nat} {g : DN} (e91 : tx p = 91) (h6 : d < 6) (S : SimSum N n tx (d + 1) (p + 1) (.inr (q, g))) (hq : tx q = 93) : SimFac N n tx d p (.inr (q + 1, g)) := by
  intro σ W c x base kf ks hI hkf hks
  have hn := hT.1
  obtain ⟨σ1, R, e, ⟨ks', σ', c', P, e1, e2, e3, e4, e5, e6, e7, e8, e9, f1, f2, f3⟩, g1⟩ := sf_in hN hT e91 h6 S hI hkf hks
  obtain ⟨h, hb, hc, hw, hd⟩ := hI
  have hqn : q < n := hT.lt (by rw [hq]; decide)
  obtain ⟨k', rfl⟩ : ∃ z, ks' = z + 1 := ⟨ks' - 1, by omega⟩
  rw [List.length_cons] at e6
  obtain ⟨σ2, b1, b2, b3, b4⟩ := mo_closes hN (a := 1) (W := (14, 0) :: W) (show ¬ clo 1 (nI 14) by decide) e3 (fun o ho => clo_sg (e4 o ho)) (by omega) (by rw [List.length_cons]; omega)
  obtain ⟨σ3, c1, c2, c3⟩ := b2.pop
  obtain ⟨σ4, d1, d2, d3⟩ := c2.less
  obtain ⟨σ5, k1, k2, k3⟩ := d2.adv hqn
  have e73 : mI σ5 73 = mI σ2 73 := by rw [k3, d3, c3]
  refine ⟨k', σ5, c' + P.length, [], ?_, by omega, k2, fun o ho => absurd ho (by simp), by rw [List.length_nil]; omega, by rw [List.length_nil]; omega, by omega, by omega, fun j hj => ?_, ?_, fun z => absurd z (by decide), fun z => absurd z (by decide)⟩
  · rw [e, e1]
    exact mlt_shut (by rw [mo_here hT e3, hq]) (mo_open hN e3 (by rw [List.length_append, List.length_cons, pw_len]; omega) hb) b1 c1 d1 k1
  · rw [e73, b3 j (by omega), e9 j hj, g1]
  · refine PS.nil ((f1 (mI σ5 73) (fun j _ hj => by rw [e73, b3 j hj]) (b4.k (fun j _ _ => by rw [e73]))).up ?_)
    unfold hh
    simp
    omega
theorem sf_5 (hN : 1000 < N) (hT : TX n tx) {d p m : Nat} (h1 : 1 ≤ m) (h5 : m ≤ 5) (hdg : ∀ i, i < m → dig (tx (p + i))) (hno : ¬ dig (tx (p + m))) : SimFac N n tx d p (.inr (p + m, lcst (dval tx p m))) := by
  intro σ W c x base kf ks hI hkf hks
  obtain ⟨h, hb, hc, hw, hd⟩ := hI
  have hn := hT.1
  have hpn : p ≤ n := h.2.2.2.2.2.2.2
  obtain ⟨kf, rfl⟩ : ∃ z, kf = z + 1 := ⟨kf - 1, by omega⟩
  have d0 : dig (tx p) := hdg 0 (by omega)
  obtain ⟨σ1, a1, a2, a3, a4⟩ := mo_digits (N := N) hT (W := W) (d := d) (c := c) h5 hdg hno m 0 N (sI σ 65 19 0) (by omega) (by omega) (h.val 0) (by rw [sI_s]; rfl)
  obtain ⟨v, v1, v2⟩ := dval_nat hT m hdg
  have hv : v < 1048576 := Nat.lt_of_lt_of_le v1 (Nat.le_trans (Nat.pow_le_pow_right (by decide) h5) (by decide))
  have hpm : p + m ≤ n := a2.2.2.2.2.2.2.2
  obtain ⟨σ2, b1, b2, b3⟩ := a2.notes (by omega) 0 (mI σ1 65 19)
  refine ⟨ks, σ2, c + 1, [], ?_, by omega, b2, fun o ho => absurd ho (by simp), by rw [List.length_nil]; omega, by rw [List.length_nil]; omega, by omega, by omega, fun j hj => ?_, ?_, fun z => absurd z (by decide), fun z => absurd z (by decide)⟩
  · rw [mft_base (mo_here hT h) (dig_ne d0).2]
    unfold FacT
    rcases mo_isDigit hT h with ⟨y1, y2⟩ | ⟨y1, y2⟩
    · rw [y1]
      simp only [bnd1_n, if_neg ne10]
      unfold f_Mo_readsNumber
      rw [letv_n, letv_n, h.1, a1]
      simp only [bnd2_n, if_neg ne10]
      rw [b1]
      simp only [bnd1_n, bnd2_n, if_neg ne10]
    · exact absurd d0 y2
  · rw [b3, up1_n _ _ (by omega), a4, mI_sIn _ _ _ (by decide)]
  · refine PS.nil ((sem_num (Nat.lt_succ_self c) (fun cd' hcd => ⟨by omega, rfl, Or.inl ⟨rfl, v, hv, v2, ?_⟩⟩)).up (hh2 5 d))
    rw [hcd c (Nat.le_refl _) (Nat.lt_succ_self c), b3, up1_s, a3, v2, show (1048576 : Int32) * 0 = 0 by decide]
    exact Int32.zero_add _
theorem sf_6 (hN : 1000 < N) (hT : TX n tx) {d p : Nat} (hdg : ∀ i, i < 6 → dig (tx (p + i))) : SimFac N n tx d p (.inl (2, p + 5)) := by
  intro σ W c x base kf ks hI hkf hks
  obtain ⟨h, hb, hc, hw, hd⟩ := hI
  have hn := hT.1
  have hpn : p ≤ n := h.2.2.2.2.2.2.2
  obtain ⟨kf, rfl⟩ : ∃ z, kf = z + 1 := ⟨kf - 1, by omega⟩
  have d0 : dig (tx p) := hdg 0 (by omega)
  obtain ⟨σ1, a1, a2⟩ := mo_six_digits (N := N) hT (W := W) (d := d) (c := c) hdg 5 0 N (sI σ 65 19 0) (by omega) (by omega) (h.val 0) (by rw [sI_s]; rfl)
  refine ⟨σ1, ?_, a2⟩
  rw [mft_base (mo_here hT h) (dig_ne d0).2]
  unfold FacT
  rcases mo_isDigit hT h with ⟨y1, y2⟩ | ⟨y1, y2⟩
  · rw [y1]
    simp only [bnd1_n, if_neg ne10]
    unfold f_Mo_readsNumber
    rw [letv_n, letv_n, h.1, a1]
    simp only [bnd2_n, if_true]
  · exact absurd d0 y2
theorem sf_7 (hN : 1000 < N) (hT : TX n tx) {d p : Nat} (hl : lix (tx p) < 9) : SimFac N n tx d p (.inr (p + 1, fun F => some (F (lix (tx p))))) := by
  intro σ W c x base kf ks hI hkf hks
  obtain ⟨h, hb, hc, hw, hd⟩ := hI
  have hn := hT.1
  have hpn : p ≤ n := h.2.2.2.2.2.2.2
  obtain ⟨kf, rfl⟩ : ∃ z, kf = z + 1 := ⟨kf - 1, by omega⟩
  obtain ⟨l1, l2, l3⟩ := lix_pos hl
  have hp : p < n := hT.lt l1
  obtain ⟨σ2, b1, b2, b3⟩ := h.notes (by omega) 1 (nI (lix (tx p)))
  obtain ⟨σ3, k1, k2, k3⟩ := b2.adv hp
  have hne : ¬ nI (lix (tx p)) = -1 := by
    generalize lix (tx p) = j at hl
    rcases (show j = 0 ∨ j = 1 ∨ j = 2 ∨ j = 3 ∨ j = 4 ∨ j = 5 ∨ j = 6 ∨ j = 7 ∨ j = 8 by omega) with rfl | rfl | rfl | rfl | rfl | rfl | rfl | rfl | rfl <;> decide
  refine ⟨ks, σ3, c + 1, [], ?_, by omega, k2, fun o ho => absurd ho (by simp), by rw [List.length_nil]; omega, by rw [List.length_nil]; omega, by omega, by omega, fun j hj => ?_, ?_, fun z => absurd z (by decide), fun z => absurd z (by decide)⟩
  · rw [mft_base (mo_here hT h) l2]
    unfold FacT
    rcases mo_isDigit hT h with ⟨y1, y2⟩ | ⟨y1, y2⟩
    · exact absurd y2 l3
    · rw [y1]
      simp only [bnd1_n, if_true]
      rw [mo_here hT h]
      simp only [bnd1_n]
      rw [fact_of, if_pos hl]
      simp only [bnd1_n, if_neg hne]
      rw [b1]
      simp only [bnd1_n]
      rw [letv_n, k1]
      simp only [bnd2_n, if_neg ne10]
  · rw [k3, b3, up1_n _ _ (by omega)]
  · refine PS.nil ((sem_fact (Nat.lt_succ_self c) hl (fun cd' hcd => ⟨by omega, rfl, Or.inr (Or.inl ⟨rfl, lix (tx p), hl, rfl, ?_⟩)⟩)).up (hh2 5 d))
    rw [hcd c (Nat.le_refl _) (Nat.lt_succ_self c), k3, b3, up1_s, ← nI_add]
    rfl
theorem sf_8 (hT : TX n tx) {d p : Nat} (h91 : tx p ≠ 91) (hnd : ¬ dig (tx p)) (hl : lix (tx p) = 9) : SimFac N n tx d p (.inl (1, p)) := by
  intro σ W c x base kf ks hI hkf hks
  obtain ⟨h, hb, hc, hw, hd⟩ := hI
  obtain ⟨kf, rfl⟩ : ∃ z, kf = z + 1 := ⟨kf - 1, by omega⟩
  obtain ⟨σ2, w1, w2⟩ := mo_wr h.1 1 1 rfl
  refine ⟨σ2, ?_, w2⟩
  rw [mft_base (mo_here hT h) h91]
  unfold FacT
  rcases mo_isDigit hT h with ⟨y1, y2⟩ | ⟨y1, y2⟩
  · exact absurd y2 hnd
  · rw [y1]
    simp only [bnd1_n, if_true]
    rw [mo_here hT h]
    simp only [bnd1_n]
    rw [fact_of, hl, if_neg (by decide)]
    simp only [bnd1_n, if_true]
    rw [w1]
    simp only [bnd2_n, if_true]
theorem st_1 {d p : Nat} {b : Nat × Nat} (S : SimFac N n tx d p (.inl b)) : SimTer N n tx d p (.inl b) := by
  intro σ W c x base kf ks hI hcl hkf hks
  obtain ⟨k, q⟩ := b
  exact S σ W c x base kf ks hI hkf hks
theorem st_2 {d p q : Nat} {g : DN} {o : Out} (S : SimFac N n tx d p (.inr (q, g))) (S2 : SimTl N n tx g d q o) : SimTer N n tx d p o := by
  intro σ W c x base kf ks hI hcl hkf hks
  obtain ⟨ks', σ', c', P, e1, e2, e3, e4, e5, e6, e7, e8, e9, f1, f2, f3⟩ := S σ W c x base kf ks hI hkf hks
  obtain ⟨h, hb, hc, hw, hd⟩ := hI
  have eP := P_nil e4
  subst eP
  exact (S2 σ' W c' c x base ks' [] e3 hb (fun o ho => absurd ho (by simp)) e5 e6 hd e8 (f1.up (by unfold hh; simp)) hcl e2).mono e1 e7 e9
theorem st_3 {d p : Nat} {g : DN} (hno : ¬ isMd (tx p)) : SimTl N n tx g d p (.inr (p, g)) := by
  intro σ W c s x base ks P h hb hP hc hw hd hs hPS hcl hks
  exact ⟨ks, σ, c, P, rfl, hks, h, hP, hc, hw, Nat.le_refl _, hs, fun j _ => rfl, hPS, fun _ => hno, fun z => absurd z (by decide)⟩
theorem st_in (hN : 1000 < N) (hT : TX n tx) {d p : Nat} {o2' : Out} (his : isMd (tx p)) (S : SimFac N n tx d (p + 1) o2') {σ : Mem} {W : List (Nat × Nat)} {c x base ks : Nat} {P : List Nat} (h : MS n tx σ (pw P ++ W) d p c) (hb : base ≤ W.length) (hP : ∀ o, o ∈ P → 4 ≤ o ∧ o ≤ 6) (hc : c + P.length + x ≤ p) (hw : W.length + P.length ≤ p) (hd : d ≤ 6) (hcl : ¬ clo 0 (tpI W)) (hks : n - p < ks) : ∃ (o : Nat) (σ3 : Mem) (R : Option (Int32 × Mem)), 4 ≤ o ∧ o ≤ 6 ∧ chr o = tx p ∧ MLT N ks (nI base) σ = R ∧ EOut N n tx R σ3 (c + P.length) ((o, 0) :: W) d (p + 1) (x + 1) base 7 5 o2' ∧ (∀ j, j < c → mI σ3 73 j = mI σ 73 j) ∧ CD (mI σ3 73) c P := by
  have hn := hT.1
  have hp : p < n := hT.lt (isMd_ne his)
  obtain ⟨o, o1, o2, o3, o4⟩ := sg_md his
  obtain ⟨k, rfl⟩ : ∃ z, ks = z + 1 := ⟨ks - 1, by omega⟩
  obtain ⟨σ1, b1, b2, b3, b4⟩ := mo_closes hN (a := 0) hcl h (fun o ho => clo_md (hP o ho)) (by omega) (by omega)
  obtain ⟨σ2, c1, c2, c3⟩ := b2.push (o := o) (v := 0) (by omega) (by decide) (x := 1048576 * nI o) (by rw [Nat.add_zero, ← pk_mul]; rfl)
  obtain ⟨σ3, d1, d2, d3⟩ := c2.adv hp
  have e73 : mI σ3 73 = mI σ1 73 := by rw [d3, c3]
  refine ⟨o, σ3, _, o1, o2, o4, mlt_op (mo_here hT h) o3 (by omega) (by omega) (Or.inl ⟨o1, rfl⟩) b1 b2.2.2.2.2.2.1 (by omega) c1 d1, S σ3 ((o, 0) :: W) (c + P.length) (x + 1) base N k ⟨d2, by rw [List.length_cons]; omega, by omega, by rw [List.length_cons]; omega, hd⟩ (by omega) (by omega), fun j hj => by rw [e73, b3 j hj], b4.k (fun j _ _ => by rw [e73])⟩
theorem st_4 (hN : 1000 < N) (hT : TX n tx) {d p : Nat} {g : DN} {b : Nat × Nat} (his : isMd (tx p)) (S : SimFac N n tx d (p + 1) (.inl b)) : SimTl N n tx g d p (.inl b) := by
  intro σ W c s x base ks P h hb hP hc hw hd hs hPS hcl hks
  obtain ⟨k, q⟩ := b
  obtain ⟨o, σ3, R, o1, o2, o3, e, ⟨σ', b1, b2⟩, -⟩ := st_in hN hT his S h hb hP hc hw hd hcl hks
  exact ⟨σ', e.trans b1, b2⟩
theorem st_5 (hN : 1000 < N) (hT : TX n tx) {d p q : Nat} {g g2 : DN} {o' : Out} (his : isMd (tx p)) (S : SimFac N n tx d (p + 1) (.inr (q, g2))) (S2 : SimTl N n tx (binD (tx p) g g2) d q o') : SimTl N n tx g d p o' := by
  intro σ W c s x base ks P h hb hP hc hw hd hs hPS hcl hks
  have hn := hT.1
  obtain ⟨o, σ3, R, o1, o2, o3, e, ⟨ks', σ4, c4, P4, e1, e2, e3, e4, e5, e6, e7, e8, e9, f1, f2, f3⟩, k1, k2⟩ := st_in hN hT his S h hb hP hc hw hd hcl hks
  have eP := P_nil e4
  subst eP
  rw [List.length_nil] at e5 e6
  rw [List.length_cons] at e6
  have hqn : q ≤ n := e3.2.2.2.2.2.2.2
  refine (S2 σ4 W c4 s x base ks' [o] e3 hb (fun z hz => by rw [List.mem_singleton.mp hz]; exact ⟨o1, o2⟩) (by simp only [List.length_cons, List.length_nil]; omega) (by simp only [List.length_cons, List.length_nil]; omega) hd (by omega) ?_ hcl e2).mono (e.trans e1) (by omega) (fun j hj => (e9 j (by omega)).trans (k1 j (by omega)))
  intro cd' h1 h2
  have A : SemX DM cd' s (c + P.length) (hh 4 d) g := hPS cd' (fun j q1 q2 => (h1 j q1 (by omega)).trans ((e9 j (by omega)).trans (k1 j q2))) (k2.k (fun j q1 q2 => (h1 j (by omega) (by omega)).trans (e9 j q2)))
  have B : SemX DM cd' (c + P.length) c4 (hh 5 d) g2 := f1 cd' (fun j q1 q2 => h1 j (by omega) q2) True.intro
  rw [← o3]
  exact sem_mop A B (Nat.le_refl _) (by unfold hh; simp) (hh2 5 d) (by omega) (by omega) (by omega) (by omega) (by omega) h2.1
theorem ss_1 {d p : Nat} {b : Nat × Nat} (S : SimTer N n tx d p (.inl b)) : SimSum N n tx d p (.inl b) := by
  intro σ W c x base kf ks hI hcl hkf hks
  obtain ⟨k, q⟩ := b
  exact S σ W c x base kf ks hI (nclo_of hcl) hkf hks
theorem ss_2 {d p q : Nat} {g : DN} {o : Out} (S : SimTer N n tx d p (.inr (q, g))) (S2 : SimSl N n tx g d q o) : SimSum N n tx d p o := by
  intro σ W c x base kf ks hI hcl hkf hks
  obtain ⟨ks', σ', c', P, e1, e2, e3, e4, e5, e6, e7, e8, e9, f1, f2, f3⟩ := S σ W c x base kf ks hI (nclo_of hcl) hkf hks
  obtain ⟨h, hb, hc, hw, hd⟩ := hI
  exact (S2 σ' W c' c x base ks' P e3 hb (fun o ho => by have := e4 o ho; omega) e5 e6 hd e8 (f1.up (by unfold hh; simp)) hcl (f2 (by decide)) e2).mono e1 e7 e9
theorem ss_3 {d p : Nat} {g : DN} (hno : ¬ isPm (tx p)) : SimSl N n tx g d p (.inr (p, g)) := by
  intro σ W c s x base ks P h hb hP hc hw hd hs hPS hcl hmd hks
  exact ⟨ks, σ, c, P, rfl, hks, h, hP, hc, hw, Nat.le_refl _, hs, fun j _ => rfl, hPS, fun _ => hmd, fun _ => hno⟩
theorem ss_in (hN : 1000 < N) (hT : TX n tx) {d p : Nat} {o2' : Out} (his : isPm (tx p)) (S : SimTer N n tx d (p + 1) o2') {σ : Mem} {W : List (Nat × Nat)} {c x base ks : Nat} {P : List Nat} (h : MS n tx σ (pw P ++ W) d p c) (hb : base ≤ W.length) (hP : ∀ o, o ∈ P → 2 ≤ o ∧ o ≤ 6) (hc : c + P.length + x ≤ p) (hw : W.length + P.length ≤ p) (hd : d ≤ 6) (hcl : ¬ clo 1 (tpI W)) (hks : n - p < ks) : ∃ (o : Nat) (σ3 : Mem) (R : Option (Int32 × Mem)), 2 ≤ o ∧ o ≤ 3 ∧ chr o = tx p ∧ MLT N ks (nI base) σ = R ∧ EOut N n tx R σ3 (c + P.length) ((o, 0) :: W) d (p + 1) (x + 1) base 4 4 o2' ∧ (∀ j, j < c → mI σ3 73 j = mI σ 73 j) ∧ CD (mI σ3 73) c P := by
  have hn := hT.1
  have hp : p < n := hT.lt (isPm_ne his)
  obtain ⟨o, o1, o2, o3, o4⟩ := sg_pm his
  obtain ⟨k, rfl⟩ : ∃ z, ks = z + 1 := ⟨ks - 1, by omega⟩
  obtain ⟨σ1, b1, b2, b3, b4⟩ := mo_closes hN (a := 1) hcl h (fun o ho => clo_sg (hP o ho)) (by omega) (by omega)
  obtain ⟨σ2, c1, c2, c3⟩ := b2.push (o := o) (v := 0) (by omega) (by decide) (x := 1048576 * nI o) (by rw [Nat.add_zero, ← pk_mul]; rfl)
  obtain ⟨σ3, d1, d2, d3⟩ := c2.adv hp
  have e73 : mI σ3 73 = mI σ1 73 := by rw [d3, c3]
  refine ⟨o, σ3, _, o1, o2, o4, mlt_op (mo_here hT h) o3 (by omega) (by omega) (Or.inr ⟨by omega, rfl⟩) b1 b2.2.2.2.2.2.1 (by omega) c1 d1, S σ3 ((o, 0) :: W) (c + P.length) (x + 1) base N k ⟨d2, by rw [List.length_cons]; omega, by omega, by rw [List.length_cons]; omega, hd⟩ (nclo_pm ⟨o1, o2⟩) (by omega) (by omega), fun j hj => by rw [e73, b3 j hj], b4.k (fun j _ _ => by rw [e73])⟩
theorem ss_4 (hN : 1000 < N) (hT : TX n tx) {d p : Nat} {g : DN} {b : Nat × Nat} (his : isPm (tx p)) (S : SimTer N n tx d (p + 1) (.inl b)) : SimSl N n tx g d p (.inl b) := by
  intro σ W c s x base ks P h hb hP hc hw hd hs hPS hcl hmd hks
  obtain ⟨k, q⟩ := b
  obtain ⟨o, σ3, R, o1, o2, o3, e, ⟨σ', b1, b2⟩, -⟩ := ss_in hN hT his S h hb hP hc hw hd hcl hks
  exact ⟨σ', e.trans b1, b2⟩
theorem ss_5 (hN : 1000 < N) (hT : TX n tx) {d p q : Nat} {g g2 : DN} {o' : Out} (his : isPm (tx p)) (S : SimTer N n tx d (p + 1) (.inr (q, g2))) (S2 : SimSl N n tx (binD (tx p) g g2) d q o') : SimSl N n tx g d p o' := by
  intro σ W c s x base ks P h hb hP hc hw hd hs hPS hcl hmd hks
  have hn := hT.1
  obtain ⟨o, σ3, R, o1, o2, o3, e, ⟨ks', σ4, c4, P4, e1, e2, e3, e4, e5, e6, e7, e8, e9, f1, f2, f3⟩, k1, k2⟩ := ss_in hN hT his S h hb hP hc hw hd hcl hks
  rw [List.length_cons] at e6
  have hqn : q ≤ n := e3.2.2.2.2.2.2.2
  have eP : pw (P4 ++ [o]) ++ W = pw P4 ++ (o, 0) :: W := by
    unfold pw
    simp
  have lP : (P4 ++ [o]).length = P4.length + 1 := by simp
  refine (S2 σ4 W c4 s x base ks' (P4 ++ [o]) (by rw [eP]; exact e3) hb (fun z hz => ?_) (by rw [lP]; omega) (by rw [lP]; omega) hd (by omega) ?_ hcl (f2 (by decide)) e2).mono (e.trans e1) (by omega) (fun j hj => (e9 j (by omega)).trans (k1 j (by omega)))
  · rcases List.mem_append.mp hz with z1 | z1
    · have := e4 z z1; omega
    · rw [List.mem_singleton.mp z1]; omega
  · intro cd' h1 h2
    obtain ⟨h3, h4⟩ := h2.app
    have A : SemX DM cd' s (c + P.length) (hh 3 d) g := hPS cd' (fun j q1 q2 => (h1 j q1 (by omega)).trans ((e9 j (by omega)).trans (k1 j q2))) (k2.k (fun j q1 q2 => (h1 j (by omega) (by omega)).trans (e9 j q2)))
    have B : SemX DM cd' (c + P.length) (c4 + P4.length) (hh 4 d) g2 := f1 cd' (fun j q1 q2 => h1 j (by omega) q2) h3
    rw [← o3, lP, show c4 + (P4.length + 1) = c4 + P4.length + 1 by omega]
    exact sem_mop A B (Nat.le_refl _) (by unfold hh; simp) (hh2 4 d) (by omega) (by omega) (by omega) (by omega) (by omega) h4
/-- a whole sum, from the stack as it stands -/
theorem mo_sum (hN : 1000 < N) (hT : TX n tx) {d p : Nat} {o : Out} (S : SimSum N n tx d p o) {σ : Mem} {W : List (Nat × Nat)} {c x : Nat} (h : MS n tx σ W d p c) (hc : c + x ≤ p) (hw : W.length ≤ p) (hd : d ≤ 6) (hcl : ¬ clo 1 (tpI W)) : match o with
  | .inl (k, q) => ∃ σ', f_Mo_readsSum N σ = some (0, σ') ∧ mI σ' 65 14 = (-1000) * nI k - nI q
  | .inr (q, g) => ∃ σ' c', f_Mo_readsSum N σ = some (1, σ') ∧ MS n tx σ' W d q c' ∧ c' + x ≤ q ∧ W.length ≤ q ∧ c ≤ c' ∧ p ≤ q ∧ (∀ j, j < c → mI σ' 73 j = mI σ 73 j) ∧ SemX DM (mI σ' 73) c c' (hh 3 d) g := by
  have hn := hT.1
  have E := S σ W c x W.length N N ⟨h, Nat.le_refl _, hc, hw, hd⟩ hcl (by omega) (by omega)
  rw [← h.2.2.2.2.2.1, ← readsSum_e] at E
  match o, E with
  | .inl (k, q), E => exact E
  | .inr (q, g), E =>
    obtain ⟨ks', σ', c', P, e1, e2, e3, e4, e5, e6, e7, e8, e9, f1, f2, f3⟩ := E
    have hqn : q ≤ n := e3.2.2.2.2.2.2.2
    obtain ⟨k', rfl⟩ : ∃ z, ks' = z + 1 := ⟨ks' - 1, by omega⟩
    have hop : f_Mo_hasOpenSum N σ' (nI W.length) = some 0 := mo_shut hN e3 (by omega) (fun o ho => by have := e4 o ho; omega)
    obtain ⟨σ2, b1, b2, b3, b4⟩ := mo_closes hN (a := 1) hcl e3 (fun o ho => clo_sg (e4 o ho)) (by omega) (by omega)
    refine ⟨σ2, c' + P.length, ?_, b2, by omega, by omega, by omega, e7, fun j hj => (b3 j (by omega)).trans (e9 j hj), f1 (mI σ2 73) (fun j _ hj => b3 j hj) b4⟩
    rw [e1, mlt_end (mo_here hT e3) (sg_no (f2 (by decide)) (f3 (by decide))) (Or.inr hop)]
    show (bnd1 (f_Mo_hasOpenSum N σ' (nI W.length)) _) = _
    rw [hop]
    simp only [bnd1_n, if_true]
    rw [b1]
    simp only [bnd1_n]
end SimF
