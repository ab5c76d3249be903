-- ===== kept and undone =====
theorem TEq.symm {a b : TD} (h : TEq a b) : TEq b a := by
  obtain ⟨n, s, m, x, k, p, z, d, o, u⟩ := a
  obtain ⟨n', s', m', x', k', p', z', d', o', u'⟩ := b
  obtain ⟨h1, h2, h3, h4, h5, h6⟩ := h
  exact ⟨h1.symm, h2.symm, h3.symm, h4.symm, fun c hc => ⟨(h5 c hc).1.symm, (h5 c hc).2.1.symm, (h5 c hc).2.2.1.symm, (h5 c hc).2.2.2.1.symm, (h5 c hc).2.2.2.2.symm⟩, fun w hw => (h6 w hw).symm⟩
theorem TEq.trans {a b c : TD} (h : TEq a b) (g : TEq b c) : TEq a c := by
  obtain ⟨n, s, m, x, k, p, z, d, o, u⟩ := a
  obtain ⟨n', s', m', x', k', p', z', d', o', u'⟩ := b
  obtain ⟨n2, s2, m2, x2, k2, p2, z2, d2, o2, u2⟩ := c
  obtain ⟨h1, h2, h3, h4, h5, h6⟩ := h
  obtain ⟨g1, g2, g3, g4, g5, g6⟩ := g
  exact ⟨h1.trans g1, h2.trans g2, h3.trans g3, h4.trans g4, fun c hc => ⟨(h5 c hc).1.trans (g5 c hc).1, (h5 c hc).2.1.trans (g5 c hc).2.1, (h5 c hc).2.2.1.trans (g5 c hc).2.2.1, (h5 c hc).2.2.2.1.trans (g5 c hc).2.2.2.1, (h5 c hc).2.2.2.2.trans (g5 c hc).2.2.2.2⟩, fun w hw => (h6 w hw).trans (g6 w hw)⟩
theorem TOk.of {a b : TD} (h : TEq a b) (i : TOk a) : TOk b := by
  obtain ⟨n, s, m, x, k, p, z, d, o, u⟩ := a
  obtain ⟨n', s', m', x', k', p', z', d', o', u'⟩ := b
  obtain ⟨h1, h2, h3, h4, h5, h6⟩ := h
  obtain ⟨nn, ss, q1, q2, q3, q4, q5, q6, q7⟩ := i
  refine ⟨nn, ss, q1, q2, h1.symm.trans q3, h2.symm.trans q4, ?_, ?_, fun c hc => ?_⟩
  · obtain ⟨v, hv, ev⟩ := q5; exact ⟨v, hv, h3.symm.trans ev⟩
  · obtain ⟨v, hv, ev⟩ := q6; exact ⟨v, hv, h4.symm.trans ev⟩
  · obtain ⟨⟨v1, a1, e1⟩, ⟨v2, a2, e2⟩, ⟨v3, a3, b3, e3⟩, ⟨v4, a4, e4⟩, ⟨v5, a5, e5⟩⟩ := q7 c hc
    obtain ⟨r1, r2, r3, r4, r5⟩ := h5 c (by omega)
    exact ⟨⟨v1, a1, r1.symm.trans e1⟩, ⟨v2, a2, r2.symm.trans e2⟩, ⟨v3, a3, b3, r3.symm.trans e3⟩, ⟨v4, a4, r4.symm.trans e4⟩, ⟨v5, a5, r5.symm.trans e5⟩⟩
theorem cp_in {σ : Mem} {k j n c : Nat} (h : c < n) : va_cpy (mI σ k) (mI σ j) 0 0 n c = mI σ k c := by
  rw [pk_cpy_in (Nat.zero_le _) (by omega)]
  congr 1
  omega
set_option maxRecDepth 20000 in
theorem to_copy_b (σ : Mem) : ∃ σ', f_To_copyFrom_b σ = some σ' ∧ TEq (tc σ) (kc26 σ') := by
  refine ⟨_, rfl, rfl, rfl, rfl, rfl, fun c hc => ⟨?_, ?_, ?_, ?_, ?_⟩, fun w hw => ?_⟩
  · exact (cp_in (σ := σ) (k := 20) (j := 27) hc).symm
  · exact (cp_in (σ := σ) (k := 21) (j := 28) hc).symm
  · exact (cp_in (σ := σ) (k := 22) (j := 29) hc).symm
  · exact (cp_in (σ := σ) (k := 23) (j := 30) hc).symm
  · exact (cp_in (σ := σ) (k := 24) (j := 31) hc).symm
  · exact (cp_in (σ := σ) (k := 25) (j := 32) hw).symm
set_option maxRecDepth 20000 in
theorem to_copy (σ : Mem) : ∃ σ', f_To_copyFrom σ = some σ' ∧ TEq (kc26 σ) (tc σ') := by
  refine ⟨_, rfl, rfl, rfl, rfl, rfl, fun c hc => ⟨?_, ?_, ?_, ?_, ?_⟩, fun w hw => ?_⟩
  · exact (cp_in (σ := σ) (k := 27) (j := 20) hc).symm
  · exact (cp_in (σ := σ) (k := 28) (j := 21) hc).symm
  · exact (cp_in (σ := σ) (k := 29) (j := 22) hc).symm
  · exact (cp_in (σ := σ) (k := 30) (j := 23) hc).symm
  · exact (cp_in (σ := σ) (k := 31) (j := 24) hc).symm
  · exact (cp_in (σ := σ) (k := 32) (j := 25) hw).symm
theorem copies_loop {N g0 n0 g1 n1 m : Nat} (hg : g0 ≠ g1) (h0 : m ≤ n0) (h1 : m ≤ n1) (hn0 : n0 < 1000) (hn1 : n1 < 1000) : ∀ (r k i : Nat) (σ : Mem), i + r = m → r < k → ∃ σ', L_Mo_copies_l2 N g0 n0 g1 n1 (nI m) k (nI i) σ = some σ' ∧ ∀ j, mI σ' g1 j = if i ≤ j ∧ j < m then mI σ g0 j else mI σ g1 j := by
  intro r
  induction r with
  | zero =>
    intro k i σ e hk
    obtain ⟨k, rfl⟩ : ∃ z, k = z + 1 := ⟨k - 1, by omega⟩
    refine ⟨σ, ?_, fun j => ?_⟩
    · show B_Mo_copies_l2 N g0 n0 g1 n1 (nI m) _ (nI i) σ = _
      unfold B_Mo_copies_l2
      rw [if_pos (nI_le (by omega) (by omega))]
    · rw [if_neg (by omega)]
  | succ r ih =>
    intro k i σ e hk
    obtain ⟨k, rfl⟩ : ∃ z, k = z + 1 := ⟨k - 1, by omega⟩
    obtain ⟨σ', q1, q2⟩ := ih k (i + 1) (sI σ g1 i (mI σ g0 i)) (by omega) (by omega)
    refine ⟨σ', ?_, fun j => ?_⟩
    · show B_Mo_copies_l2 N g0 n0 g1 n1 (nI m) _ (nI i) σ = _
      unfold B_Mo_copies_l2
      rw [if_neg (nI_ge (by omega) (by omega)), grd_t (inb_j (by omega) (by omega)), grd_t (inb_j (by omega) (by omega))]
      simp only [letv]
      rw [nI_clamp (by omega), nI_1]
      exact q1
    · rw [q2 j]
      by_cases c1 : i + 1 ≤ j ∧ j < m
      · rw [if_pos c1, if_pos (by omega), sI_n _ _ (fun z => hg z.1)]
      · rw [if_neg c1]
        by_cases c2 : j = i
        · subst c2
          rw [sI_s, if_pos (by omega)]
        · rw [sI_n _ _ (fun z => c2 z.2), if_neg (by omega)]
theorem mo_copies {N : Nat} (hN : 100 < N) (σ : Mem) {g0 n0 g1 n1 m : Nat} (hg : g0 ≠ g1) (h0 : m ≤ n0) (h1 : m ≤ n1) (hn0 : n0 < 50) (hn1 : n1 < 50) : ∃ σ', f_Mo_copies N σ g0 n0 g1 n1 (nI m) = some σ' ∧ (∀ j, j < m → mI σ' g1 j = mI σ g0 j) ∧ Fr [g1] [] σ σ' := by
  obtain ⟨σ', q1, q2⟩ := copies_loop (N := N) hg h0 h1 (by omega) (by omega) m N 0 σ (by omega) (by omega)
  exact ⟨σ', q1, fun j hj => by rw [q2 j, if_pos (by omega)], fm_Mo_copies q1⟩
/-- six rows taken over, one behind another -/
theorem mo_six {N : Nat} (hN : 100 < N) (σ : Mem) {a1 a2 a3 a4 a5 a6 b1 b2 b3 b4 b5 b6 : Nat} (hd : ([a1, a2, a3, a4, a5, a6].all fun x => [b1, b2, b3, b4, b5, b6].all fun y => !(x == y)) = true) (hb : (b1 ≠ b2 ∧ b1 ≠ b3 ∧ b1 ≠ b4 ∧ b1 ≠ b5 ∧ b1 ≠ b6) ∧ (b2 ≠ b3 ∧ b2 ≠ b4 ∧ b2 ≠ b5 ∧ b2 ≠ b6) ∧ (b3 ≠ b4 ∧ b3 ≠ b5 ∧ b3 ≠ b6) ∧ (b4 ≠ b5 ∧ b4 ≠ b6) ∧ b5 ≠ b6) :
    ∃ s1 s2 s3 s4 s5 s6, f_Mo_copies N σ a1 17 b1 17 16 = some s1 ∧ f_Mo_copies N s1 a2 17 b2 17 16 = some s2 ∧ f_Mo_copies N s2 a3 17 b3 17 16 = some s3 ∧ f_Mo_copies N s3 a4 17 b4 17 16 = some s4 ∧ f_Mo_copies N s4 a5 17 b5 17 16 = some s5 ∧ f_Mo_copies N s5 a6 6 b6 6 6 = some s6 ∧ (∀ c, c < 16 → mI s6 b1 c = mI σ a1 c ∧ mI s6 b2 c = mI σ a2 c ∧ mI s6 b3 c = mI σ a3 c ∧ mI s6 b4 c = mI σ a4 c ∧ mI s6 b5 c = mI σ a5 c) ∧ (∀ c, c < 6 → mI s6 b6 c = mI σ a6 c) ∧ Fr [b1, b2, b3, b4, b5, b6] [] σ s6 := by
  simp only [List.all_cons, List.all_nil, Bool.and_true, Bool.and_eq_true, Bool.not_eq_true', beq_eq_false_iff_ne, ne_eq] at hd
  obtain ⟨⟨x11, x12, x13, x14, x15, x16⟩, ⟨x21, x22, x23, x24, x25, x26⟩, ⟨x31, x32, x33, x34, x35, x36⟩, ⟨x41, x42, x43, x44, x45, x46⟩, ⟨x51, x52, x53, x54, x55, x56⟩, ⟨x61, x62, x63, x64, x65, x66⟩⟩ := hd
  obtain ⟨⟨y12, y13, y14, y15, y16⟩, ⟨y23, y24, y25, y26⟩, ⟨y34, y35, y36⟩, ⟨y45, y46⟩, y56⟩ := hb
  obtain ⟨s1, p1, r1, f1⟩ := mo_copies hN σ (n0 := 17) (n1 := 17) (m := 16) x11 (by decide) (by decide) (by decide) (by decide)
  obtain ⟨s2, p2, r2, f2⟩ := mo_copies hN s1 (n0 := 17) (n1 := 17) (m := 16) x22 (by decide) (by decide) (by decide) (by decide)
  obtain ⟨s3, p3, r3, f3⟩ := mo_copies hN s2 (n0 := 17) (n1 := 17) (m := 16) x33 (by decide) (by decide) (by decide) (by decide)
  obtain ⟨s4, p4, r4, f4⟩ := mo_copies hN s3 (n0 := 17) (n1 := 17) (m := 16) x44 (by decide) (by decide) (by decide) (by decide)
  obtain ⟨s5, p5, r5, f5⟩ := mo_copies hN s4 (n0 := 17) (n1 := 17) (m := 16) x55 (by decide) (by decide) (by decide) (by decide)
  obtain ⟨s6, p6, r6, f6⟩ := mo_copies hN s5 (n0 := 6) (n1 := 6) (m := 6) x66 (by decide) (by decide) (by decide) (by decide)
  have k : ∀ {g : Nat} {u v : Mem}, Fr [g] [] u v → ∀ {q : Nat}, q ≠ g → mI v q = mI u q := fun h q hq => h.rowI q (by simpa using hq) (fun _ z => by cases z)
  refine ⟨s1, s2, s3, s4, s5, s6, p1, p2, p3, p4, p5, p6, fun c hc => ⟨?_, ?_, ?_, ?_, ?_⟩, fun c hc => ?_, ?_⟩
  · rw [k f6 y16, k f5 y15, k f4 y14, k f3 y13, k f2 y12]; exact r1 c hc
  · rw [k f6 y26, k f5 y25, k f4 y24, k f3 y23, r2 c hc, k f1 x21]
  · rw [k f6 y36, k f5 y35, k f4 y34, r3 c hc, k f2 x32, k f1 x31]
  · rw [k f6 y46, k f5 y45, r4 c hc, k f3 x43, k f2 x42, k f1 x41]
  · rw [k f6 y56, r5 c hc, k f4 x54, k f3 x53, k f2 x52, k f1 x51]
  · rw [r6 c hc, k f5 x65, k f4 x64, k f3 x63, k f2 x62, k f1 x61]
  · exact (((((f1.mono (by simp) (by simp)).t (f2.mono (by simp) (by simp))).t (f3.mono (by simp) (by simp))).t (f4.mono (by simp) (by simp))).t (f5.mono (by simp) (by simp))).t (f6.mono (by simp) (by simp))
set_option maxRecDepth 20000 in
theorem st_keep {N : Nat} (hN : 70000 ≤ N) : St_keep N := by
  intro σ hI
  obtain ⟨n, s, hn, hs, e1, e2, e3, e4⟩ := hI.town
  have hs16 : s < 65536 := Nat.lt_of_lt_of_le hs (Nat.pow_le_pow_right (n := 2) (by decide) hn)
  obtain ⟨⟨h1, h2⟩, k1, k2, k3, k4, k5, k6⟩ := hI
  obtain ⟨σ8, c1, c2⟩ := to_copy_b σ
  have F8 := fm_To_copyFrom_b c1
  have F13 : Fr [27, 28, 29, 30, 31, 32] [(0, 6), (26, 6), (26, 7), (26, 8), (26, 9)] σ (sI σ8 0 6 1) := (F8.mono (by decide) (by decide)).fI rfl (by decide)
  have c2' : TEq (tc σ) (kc26 (sI σ8 0 6 1)) := c2
  have es : mI (sI σ8 0 6 1) 19 7 = nI s := (F13.I 19 7 (by decide) (by decide)).trans e3
  generalize hσ : sI σ8 0 6 1 = σ13 at F13 c2' es
  have o6 : mI σ13 0 6 = 1 := by rw [← hσ]; exact sI_s _ _ _ _
  obtain ⟨s1, s2, s3, s4, s5, s6, p1, p2, p3, p4, p5, p6, r1, r2, f1⟩ := mo_six (N := N) (by omega) (sI (sI (sI (sI (sI σ13 65 68 1) 65 69 (mI σ13 65 0)) 65 70 (mI σ13 65 1)) 65 71 (mI σ13 65 2)) 65 72 (mI σ13 65 3)) (a1 := 66) (a2 := 67) (a3 := 68) (a4 := 69) (a5 := 70) (a6 := 71) (b1 := 110) (b2 := 111) (b3 := 112) (b4 := 113) (b5 := 114) (b6 := 115) (by decide) (by decide)
  have F2 : Fr [110, 111, 112, 113, 114, 115] [(65, 68), (65, 69), (65, 70), (65, 71), (65, 72)] σ13 s6 := ((((((Fr.rf _ _ σ13).fI (σ2 := sI σ13 65 68 1) rfl (by decide)).fI (σ2 := sI (sI σ13 65 68 1) 65 69 (mI σ13 65 0)) rfl (by decide)).fI (σ2 := sI (sI (sI σ13 65 68 1) 65 69 (mI σ13 65 0)) 65 70 (mI σ13 65 1)) rfl (by decide)).fI (σ2 := sI (sI (sI (sI σ13 65 68 1) 65 69 (mI σ13 65 0)) 65 70 (mI σ13 65 1)) 65 71 (mI σ13 65 2)) rfl (by decide)).fI (σ2 := sI (sI (sI (sI (sI σ13 65 68 1) 65 69 (mI σ13 65 0)) 65 70 (mI σ13 65 1)) 65 71 (mI σ13 65 2)) 65 72 (mI σ13 65 3)) rfl (by decide)).c f1 (by decide) (by decide)
  have em : mI s6 65 1 = nI s := (F2.I 65 1 (by decide) (by decide)).trans ((F13.I 65 1 (by decide) (by decide)).trans e4)
  refine ⟨nI (pcR s 16), σ13, s6, ?_, ?_, ?_⟩
  · unfold f_Sh_keep
    rw [c1]
    simp only [bnd1_s, letv]
    rw [hσ, es, bitCount_eq hs16]
    rfl
  · unfold f_Mo_keep
    simp only [letv]
    show bnd1 (f_Mo_copies N (sI (sI (sI (sI (sI σ13 65 68 1) 65 69 (mI σ13 65 0)) 65 70 (mI σ13 65 1)) 65 71 (mI σ13 65 2)) 65 72 (mI σ13 65 3)) 66 17 110 17 16) _ = _
    rw [p1]; simp only [bnd1_s]
    rw [p2]; simp only [bnd1_s]
    rw [p3]; simp only [bnd1_s]
    rw [p4]; simp only [bnd1_s]
    rw [p5]; simp only [bnd1_s]
    rw [p6]; simp only [bnd1_s]
    rw [em, mo_bits (by omega) hs16]
    rfl
  · have F : Fr [27, 28, 29, 30, 31, 32, 110, 111, 112, 113, 114, 115] [(0, 6), (26, 6), (26, 7), (26, 8), (26, 9), (65, 68), (65, 69), (65, 70), (65, 71), (65, 72)] σ s6 := (F13.mono (by decide) (by decide)).t (F2.mono (by decide) (by decide))
    have hk : kc26 s6 = kc26 σ13 := kc_k (F2.keeps (by decide))
    have hm : TEq (tm σ) (km s6) := by
      have a0 : mI s6 65 69 = mI σ13 65 0 := f1.I 65 69 (by decide) (by decide)
      have a1 : mI s6 65 70 = mI σ13 65 1 := f1.I 65 70 (by decide) (by decide)
      have a2 : mI s6 65 71 = mI σ13 65 2 := f1.I 65 71 (by decide) (by decide)
      have a3 : mI s6 65 72 = mI σ13 65 3 := f1.I 65 72 (by decide) (by decide)
      refine ⟨?_, ?_, ?_, ?_, fun c hc => ?_, fun c hc => ?_⟩
      · exact (a0.trans (F13.I 65 0 (by decide) (by decide))).symm
      · exact (a1.trans (F13.I 65 1 (by decide) (by decide))).symm
      · exact (a2.trans (F13.I 65 2 (by decide) (by decide))).symm
      · exact (a3.trans (F13.I 65 3 (by decide) (by decide))).symm
      · obtain ⟨v1, v2, v3, v4, v5⟩ := r1 c hc
        exact ⟨(v1.trans (F13.I 66 c (by decide) (by simp))).symm, (v2.trans (F13.I 67 c (by decide) (by simp))).symm, (v3.trans (F13.I 68 c (by decide) (by simp))).symm, (v4.trans (F13.I 69 c (by decide) (by simp))).symm, (v5.trans (F13.I 70 c (by decide) (by simp))).symm⟩
      · exact ((r2 c hc).trans (F13.I 71 c (by decide) (by simp))).symm
    refine ⟨⟨h1, h2⟩ |> fun t => ITown.k t (F.keeps (by decide)), Or.inr ⟨?_, ?_, ?_, ?_⟩, k2.k (F.keeps (by decide)), k3.k (F.keeps (by decide)), k4.k (F.keeps (by decide)), k5.k (F.keeps (by decide)), k6.k (F.keeps (by decide))⟩
    · exact (F2.I 0 6 (by decide) (by decide)).trans o6
    · exact f1.I 65 68 (by decide) (by decide)
    · rw [hk]; exact (c2'.symm.trans h1).trans hm
    · rw [hk]; exact h2.of c2'
set_option maxRecDepth 20000 in
theorem st_undo {N : Nat} (hN : 70000 ≤ N) : St_undo N := by
  intro σ hI
  obtain ⟨⟨h1, h2⟩, k1, k2, k3, k4, k5, k6⟩ := hI
  rcases k1 with ⟨i1, i2⟩ | ⟨i1, i2, i3, i4⟩
  · refine ⟨0, σ, σ, ?_, ?_, ⟨⟨h1, h2⟩, Or.inl ⟨i1, i2⟩, k2, k3, k4, k5, k6⟩⟩
    · unfold f_Sh_undo; rw [if_pos i1]
    · unfold f_Mo_undo; rw [if_pos i2]
  · obtain ⟨σ8, c1, c2⟩ := to_copy σ
    have F8 := fm_To_copyFrom c1
    have F13 : Fr [20, 21, 22, 23, 24, 25] [(19, 6), (19, 7), (19, 8), (19, 9), (33, 6), (33, 9)] σ (sI (sI σ8 33 6 0) 33 9 0) := ((F8.mono (by decide) (by decide)).fI (σ2 := sI σ8 33 6 0) rfl (by decide)).fI rfl (by decide)
    have c2' : TEq (kc26 σ) (tc (sI (sI σ8 33 6 0) 33 9 0)) := c2
    have z6 : mI (sI (sI σ8 33 6 0) 33 9 0) 33 6 = 0 := rfl
    have z9 : mI (sI (sI σ8 33 6 0) 33 9 0) 33 9 = 0 := rfl
    have hSh : f_Sh_undo σ = some (1, sI (sI σ8 33 6 0) 33 9 0) := by
      unfold f_Sh_undo f_Da_forgetSky
      rw [if_neg (by rw [i1]; decide), c1]
      rfl
    generalize sI (sI σ8 33 6 0) 33 9 0 = σ13 at F13 c2' z6 z9 hSh
    obtain ⟨s1, s2, s3, s4, s5, s6, p1, p2, p3, p4, p5, p6, r1, r2, f1⟩ := mo_six (N := N) (by omega) (sI (sI (sI (sI σ13 65 0 (mI σ13 65 69)) 65 1 (mI σ13 65 70)) 65 2 (mI σ13 65 71)) 65 3 (mI σ13 65 72)) (a1 := 110) (a2 := 111) (a3 := 112) (a4 := 113) (a5 := 114) (a6 := 115) (b1 := 66) (b2 := 67) (b3 := 68) (b4 := 69) (b5 := 70) (b6 := 71) (by decide) (by decide)
    have F2 : Fr [66, 67, 68, 69, 70, 71] [(65, 0), (65, 1), (65, 2), (65, 3)] σ13 s6 := (((((Fr.rf _ _ σ13).fI (σ2 := sI σ13 65 0 (mI σ13 65 69)) rfl (by decide)).fI (σ2 := sI (sI σ13 65 0 (mI σ13 65 69)) 65 1 (mI σ13 65 70)) rfl (by decide)).fI (σ2 := sI (sI (sI σ13 65 0 (mI σ13 65 69)) 65 1 (mI σ13 65 70)) 65 2 (mI σ13 65 71)) rfl (by decide)).fI (σ2 := sI (sI (sI (sI σ13 65 0 (mI σ13 65 69)) 65 1 (mI σ13 65 70)) 65 2 (mI σ13 65 71)) 65 3 (mI σ13 65 72)) rfl (by decide)).c f1 (by decide) (by decide)
    refine ⟨1, σ13, s6, hSh, ?_, ?_⟩
    · unfold f_Mo_undo
      rw [if_neg (by rw [F13.I 65 68 (by decide) (by decide), i2]; decide)]
      simp only [letv]
      show bnd1 (f_Mo_copies N (sI (sI (sI (sI σ13 65 0 (mI σ13 65 69)) 65 1 (mI σ13 65 70)) 65 2 (mI σ13 65 71)) 65 3 (mI σ13 65 72)) 110 17 66 17 16) _ = _
      rw [p1]; simp only [bnd1_s]
      rw [p2]; simp only [bnd1_s]
      rw [p3]; simp only [bnd1_s]
      rw [p4]; simp only [bnd1_s]
      rw [p5]; simp only [bnd1_s]
      rw [p6]; simp only [bnd1_s]
    · have F : Fr [20, 21, 22, 23, 24, 25, 66, 67, 68, 69, 70, 71] [(19, 6), (19, 7), (19, 8), (19, 9), (33, 6), (33, 9), (65, 0), (65, 1), (65, 2), (65, 3)] σ s6 := (F13.mono (by decide) (by decide)).t (F2.mono (by decide) (by decide))
      have hk : tc s6 = tc σ13 := tc_k (F2.keeps (by decide))
      have hm : TEq (km σ) (tm s6) := by
        have a0 : mI s6 65 0 = mI σ13 65 69 := f1.I 65 0 (by decide) (by decide)
        have a1 : mI s6 65 1 = mI σ13 65 70 := f1.I 65 1 (by decide) (by decide)
        have a2 : mI s6 65 2 = mI σ13 65 71 := f1.I 65 2 (by decide) (by decide)
        have a3 : mI s6 65 3 = mI σ13 65 72 := f1.I 65 3 (by decide) (by decide)
        refine ⟨?_, ?_, ?_, ?_, fun c hc => ?_, fun c hc => ?_⟩
        · exact (a0.trans (F13.I 65 69 (by decide) (by decide))).symm
        · exact (a1.trans (F13.I 65 70 (by decide) (by decide))).symm
        · exact (a2.trans (F13.I 65 71 (by decide) (by decide))).symm
        · exact (a3.trans (F13.I 65 72 (by decide) (by decide))).symm
        · obtain ⟨v1, v2, v3, v4, v5⟩ := r1 c hc
          exact ⟨(v1.trans (F13.I 110 c (by decide) (by simp))).symm, (v2.trans (F13.I 111 c (by decide) (by simp))).symm, (v3.trans (F13.I 112 c (by decide) (by simp))).symm, (v4.trans (F13.I 113 c (by decide) (by simp))).symm, (v5.trans (F13.I 114 c (by decide) (by simp))).symm⟩
        · exact ((r2 c hc).trans (F13.I 115 c (by decide) (by simp))).symm
      refine ⟨⟨?_, ?_⟩, IKept.k (Or.inr ⟨i1, i2, i3, i4⟩) (F.keeps (by decide)), k2.k (F.keeps (by decide)), k3.k (F.keeps (by decide)), k4.k (F.keeps (by decide)), k5.k (F.keeps (by decide)), k6.off (F.keeps (by decide)) ((F2.I 33 6 (by decide) (by decide)).trans z6) ((F2.I 33 9 (by decide) (by decide)).trans z9)⟩
      · rw [hk]; exact (c2'.symm.trans i3).trans hm
      · rw [hk]; exact i4.of c2'
