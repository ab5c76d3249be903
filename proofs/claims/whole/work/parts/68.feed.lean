-- ===== the tape is fed =====
/-- byte q of an int, the highest first -/
def bt8 (a : Int32) (q : Nat) : Int32 := (a >>> (nI (24 - 8 * q) &&& 31)) &&& 255
theorem low8 (x : Int32) : x.toInt8.toInt32 &&& 255 = x &&& 255 := by
  apply Int32.toBitVec_inj.mp
  rw [Int32.toBitVec_and, Int32.toBitVec_and, Int8.toBitVec_toInt32, Int32.toBitVec_toInt8]
  apply BitVec.eq_of_getLsbD_eq
  intro i hi
  rw [BitVec.getLsbD_and, BitVec.getLsbD_and]
  have hm : ∀ i < 32, 8 ≤ i → (255 : Int32).toBitVec.getLsbD i = false := by decide
  rcases Nat.lt_or_ge i 8 with z | z
  · rw [BitVec.getLsbD_signExtend, BitVec.getLsbD_signExtend, if_pos z, if_pos hi]
    simp only [z, hi, decide_true, Bool.true_and]
  · rw [hm i hi z]; simp
theorem bt8_ex (a : Int32) (q : Nat) : ∃ b : Nat, b < 256 ∧ bt8 a q = nI b := pk_andE _ 8 (by decide)
theorem add_step {N : Nat} {a : Int32} {σ : Mem} {u q k : Nat} (hq : q < 4) (hu : u < 260) (e : mI σ 1 1 = nI u) : L_Ta_addInt_l3 N a (k + 1) (nI (24 - 8 * q)) σ = L_Ta_addInt_l3 N a k (nI (24 - 8 * q) + (-8)) (sI (sI σ 2 u (bt8 a q)) 1 1 (nI (u + 1))) := by
  show B_Ta_addInt_l3 N a _ _ σ = _
  unfold B_Ta_addInt_l3
  rw [if_neg (nI_pos (by omega)), e, if_neg (show ¬ (260 : Int32) ≤ nI u from nI_ge (b := 260) hu (by decide)), grd_t (inb_j hu (by decide)), nI_clamp (by omega)]
  simp only [letv, bnd1_s]
  rw [show mI (sI σ 2 u ((a >>> (nI (24 - 8 * q) &&& 31)) &&& 255)) 1 1 = nI u from (sI_n _ _ (by omega)).trans e, nI_1]
  rfl
theorem add_end {N : Nat} {a : Int32} {σ : Mem} {k : Nat} : L_Ta_addInt_l3 N a (k + 1) (-8) σ = some σ := by
  show B_Ta_addInt_l3 N a _ _ σ = _
  unfold B_Ta_addInt_l3
  rw [if_pos (by decide)]
theorem ta_addInt {N : Nat} (hN : 100 < N) (a : Int32) {σ : Mem} {u : Nat} (hu : u + 4 ≤ 260) (e : mI σ 1 1 = nI u) : ∃ σ', f_Ta_addInt N σ a = some σ' ∧ mI σ' 1 1 = nI (u + 4) ∧ (∀ j, j < u → mI σ' 2 j = mI σ 2 j) ∧ ∀ q, q < 4 → mI σ' 2 (u + q) = bt8 a q := by
  obtain ⟨k, rfl⟩ : ∃ k, N = k + 5 := ⟨N - 5, by omega⟩
  have s0 := add_step (N := k + 5) (a := a) (σ := σ) (u := u) (q := 0) (k := k + 4) (by decide) (by omega) e
  have s1 := add_step (N := k + 5) (a := a) (σ := sI (sI σ 2 u (bt8 a 0)) 1 1 (nI (u + 1))) (u := u + 1) (q := 1) (k := k + 3) (by decide) (by omega) (sI_s _ _ _ _)
  have s2 := add_step (N := k + 5) (a := a) (σ := sI (sI (sI (sI σ 2 u (bt8 a 0)) 1 1 (nI (u + 1))) 2 (u + 1) (bt8 a 1)) 1 1 (nI (u + 1 + 1))) (u := u + 1 + 1) (q := 2) (k := k + 2) (by decide) (by omega) (sI_s _ _ _ _)
  have s3 := add_step (N := k + 5) (a := a) (σ := sI (sI (sI (sI (sI (sI σ 2 u (bt8 a 0)) 1 1 (nI (u + 1))) 2 (u + 1) (bt8 a 1)) 1 1 (nI (u + 1 + 1))) 2 (u + 1 + 1) (bt8 a 2)) 1 1 (nI (u + 1 + 1 + 1))) (u := u + 1 + 1 + 1) (q := 3) (k := k + 1) (by decide) (by omega) (sI_s _ _ _ _)
  refine ⟨sI (sI (sI (sI (sI (sI (sI (sI σ 2 u (bt8 a 0)) 1 1 (nI (u + 1))) 2 (u + 1) (bt8 a 1)) 1 1 (nI (u + 1 + 1))) 2 (u + 1 + 1) (bt8 a 2)) 1 1 (nI (u + 1 + 1 + 1))) 2 (u + 1 + 1 + 1) (bt8 a 3)) 1 1 (nI (u + 1 + 1 + 1 + 1)), ?_, sI_s _ _ _ _, fun j hj => ?_, fun q hq => ?_⟩
  · show L_Ta_addInt_l3 (k + 5) a (k + 4 + 1) 24 σ = _
    rw [show (24 : Int32) = nI (24 - 8 * 0) from rfl, s0, show nI (24 - 8 * 0) + (-8) = nI (24 - 8 * 1) by decide]
    rw [show k + 4 = k + 3 + 1 from rfl, s1, show nI (24 - 8 * 1) + (-8) = nI (24 - 8 * 2) by decide]
    rw [show k + 3 = k + 2 + 1 from rfl, s2, show nI (24 - 8 * 2) + (-8) = nI (24 - 8 * 3) by decide]
    rw [show k + 2 = k + 1 + 1 from rfl, s3, show nI (24 - 8 * 3) + (-8) = -8 by decide]
    exact add_end
  · repeat rw [sI_n _ _ (by omega)]
  · rcases (show q = 0 ∨ q = 1 ∨ q = 2 ∨ q = 3 by omega) with rfl | rfl | rfl | rfl
    all_goals
      repeat rw [sI_n _ _ (by omega)]
      exact sI_s _ _ _ _
/-- the reference's byte -/
def mt8 (a : Int32) (q : Nat) : Int32 := ((a >>> ((8 * nI (3 - q)) &&& 31)).toInt8.toInt32).toInt8.toInt32
theorem mt8_low (a : Int32) {q : Nat} (hq : q < 4) : mt8 a q &&& 255 = bt8 a q := by
  unfold mt8 bt8
  rw [low8, low8, show (8 : Int32) * nI (3 - q) = nI (24 - 8 * q) by rcases (show q = 0 ∨ q = 1 ∨ q = 2 ∨ q = 3 by omega) with rfl | rfl | rfl | rfl <;> decide]
theorem ty_step {N : Nat} {a : Int32} {σ : Mem} {u q k : Nat} (hq : q < 4) (hu : u < 260) (e : mI σ 65 11 = nI u) : L_Mo_types_l2 N a (k + 1) (nI (3 - q)) σ = L_Mo_types_l2 N a k (nI (3 - q) + (-1)) (sI (sI σ 72 u (mt8 a q)) 65 11 (nI (u + 1))) := by
  show B_Mo_types_l2 N a _ _ σ = _
  unfold B_Mo_types_l2
  rw [if_neg (nI_pos (by omega)), e, grd_t (inb_j hu (by decide)), nI_clamp (by omega)]
  simp only [letv]
  rw [show mI (sI σ 72 u (((a >>> ((8 * nI (3 - q)) &&& 31)).toInt8.toInt32).toInt8.toInt32)) 65 11 = nI u from (sI_n _ _ (by omega)).trans e, nI_1]
  rfl
theorem ty_end {N : Nat} {a : Int32} {σ : Mem} {k : Nat} : L_Mo_types_l2 N a (k + 1) (-1) σ = some σ := by
  show B_Mo_types_l2 N a _ _ σ = _
  unfold B_Mo_types_l2
  rw [if_pos (by decide)]
theorem mo_types {N : Nat} (hN : 100 < N) (a : Int32) {σ : Mem} {u : Nat} (hu : u + 4 ≤ 260) (e : mI σ 65 11 = nI u) : ∃ σ', f_Mo_types N σ a = some σ' ∧ mI σ' 65 11 = nI (u + 4) ∧ (∀ j, j < u → mI σ' 72 j = mI σ 72 j) ∧ ∀ q, q < 4 → mI σ' 72 (u + q) &&& 255 = bt8 a q := by
  obtain ⟨k, rfl⟩ : ∃ k, N = k + 5 := ⟨N - 5, by omega⟩
  have s0 := ty_step (N := k + 5) (a := a) (σ := σ) (u := u) (q := 0) (k := k + 4) (by decide) (by omega) e
  have s1 := ty_step (N := k + 5) (a := a) (σ := sI (sI σ 72 u (mt8 a 0)) 65 11 (nI (u + 1))) (u := u + 1) (q := 1) (k := k + 3) (by decide) (by omega) (sI_s _ _ _ _)
  have s2 := ty_step (N := k + 5) (a := a) (σ := sI (sI (sI (sI σ 72 u (mt8 a 0)) 65 11 (nI (u + 1))) 72 (u + 1) (mt8 a 1)) 65 11 (nI (u + 1 + 1))) (u := u + 1 + 1) (q := 2) (k := k + 2) (by decide) (by omega) (sI_s _ _ _ _)
  have s3 := ty_step (N := k + 5) (a := a) (σ := sI (sI (sI (sI (sI (sI σ 72 u (mt8 a 0)) 65 11 (nI (u + 1))) 72 (u + 1) (mt8 a 1)) 65 11 (nI (u + 1 + 1))) 72 (u + 1 + 1) (mt8 a 2)) 65 11 (nI (u + 1 + 1 + 1))) (u := u + 1 + 1 + 1) (q := 3) (k := k + 1) (by decide) (by omega) (sI_s _ _ _ _)
  refine ⟨sI (sI (sI (sI (sI (sI (sI (sI σ 72 u (mt8 a 0)) 65 11 (nI (u + 1))) 72 (u + 1) (mt8 a 1)) 65 11 (nI (u + 1 + 1))) 72 (u + 1 + 1) (mt8 a 2)) 65 11 (nI (u + 1 + 1 + 1))) 72 (u + 1 + 1 + 1) (mt8 a 3)) 65 11 (nI (u + 1 + 1 + 1 + 1)), ?_, sI_s _ _ _ _, fun j hj => ?_, fun q hq => ?_⟩
  · show L_Mo_types_l2 (k + 5) a (k + 4 + 1) 3 σ = _
    rw [show (3 : Int32) = nI (3 - 0) from rfl, s0, show nI (3 - 0) + (-1) = nI (3 - 1) by decide]
    rw [show k + 4 = k + 3 + 1 from rfl, s1, show nI (3 - 1) + (-1) = nI (3 - 2) by decide]
    rw [show k + 3 = k + 2 + 1 from rfl, s2, show nI (3 - 2) + (-1) = nI (3 - 3) by decide]
    rw [show k + 2 = k + 1 + 1 from rfl, s3, show nI (3 - 3) + (-1) = -1 by decide]
    exact ty_end
  · repeat rw [sI_n _ _ (by omega)]
  · rw [← mt8_low a hq]
    congr 1
    rcases (show q = 0 ∨ q = 1 ∨ q = 2 ∨ q = 3 by omega) with rfl | rfl | rfl | rfl
    all_goals
      repeat rw [sI_n _ _ (by omega)]
      exact sI_s _ _ _ _
/-- the tape's bytes agree up to u -/
def TB (σc σm : Mem) (u : Nat) : Prop := ∀ j, j < u → ∃ b : Nat, b < 256 ∧ mI σc 2 j = nI b ∧ mI σm 72 j &&& 255 = nI b
theorem TB.add {σc σm σc' σm' : Mem} {u : Nat} {a : Int32} (h : TB σc σm u) (c1 : ∀ j, j < u → mI σc' 2 j = mI σc 2 j) (c2 : ∀ q, q < 4 → mI σc' 2 (u + q) = bt8 a q) (m1 : ∀ j, j < u → mI σm' 72 j = mI σm 72 j) (m2 : ∀ q, q < 4 → mI σm' 72 (u + q) &&& 255 = bt8 a q) : TB σc' σm' (u + 4) := by
  intro j hj
  rcases Nat.lt_or_ge j u with q | q
  · obtain ⟨b, b1, b2, b3⟩ := h j q
    exact ⟨b, b1, by rw [c1 j q]; exact b2, by rw [m1 j q]; exact b3⟩
  · obtain ⟨b, b1, b2⟩ := bt8_ex a (j - u)
    have e : j = u + (j - u) := by omega
    exact ⟨b, b1, by rw [e, c2 _ (by omega)]; exact b2, by rw [e, m2 _ (by omega)]; exact b2⟩
theorem st_feed {N : Nat} (hN : 70000 ≤ N) : St_feed N := by
  intro σ a1 a2 a3 a4 a5 hI
  have hI' := hI
  obtain ⟨k0, k1, ⟨u, hu, u1, u2, u3⟩, k3, k4, k5, k6⟩ := hI'
  unfold f_Sh_feed f_Mo_feed f_Ta_hasRoomFor f_Ta_length
  rw [u1]
  rw [show nI u + 20 = nI (u + 20) from nI_add u 20]
  rcases Nat.lt_or_ge 260 (u + 20) with q | q
  · have c1 : (260 : Int32) < nI (u + 20) := nI_lt (a := 260) q (by omega)
    have c2 : ¬ nI (u + 20) ≤ 260 := nI_ge (a := 260) q (by omega)
    refine ⟨-1, σ, σ, ?_, ?_, hI⟩
    · rw [if_pos c1]; simp only [bnd1_s, if_true]
    · rw [u2, show nI u + 20 = nI (u + 20) from nI_add u 20, if_neg c2]
  · have c1 : ¬ (260 : Int32) < nI (u + 20) := nI_nlt (a := 260) (by omega) (by decide)
    have c2 : nI (u + 20) ≤ 260 := nI_le (b := 260) q (by decide)
    obtain ⟨s1, p1, e1, x1, y1⟩ := ta_addInt (N := N) (by omega) a1 (σ := σ) (by omega) u1
    obtain ⟨s2, p2, e2, x2, y2⟩ := ta_addInt (N := N) (by omega) a2 (σ := s1) (by omega) e1
    obtain ⟨s3, p3, e3, x3, y3⟩ := ta_addInt (N := N) (by omega) a3 (σ := s2) (by omega) e2
    obtain ⟨s4, p4, e4, x4, y4⟩ := ta_addInt (N := N) (by omega) a4 (σ := s3) (by omega) e3
    obtain ⟨s5, p5, e5, x5, y5⟩ := ta_addInt (N := N) (by omega) a5 (σ := s4) (by omega) e4
    have Fc := ((((fm_Ta_addInt p1).t (fm_Ta_addInt p2)).t (fm_Ta_addInt p3)).t (fm_Ta_addInt p4)).t (fm_Ta_addInt p5)
    have w2 : mI s5 65 11 = nI u := (Fc.I 65 11 (by decide) (by decide)).trans u2
    have r72 : mI s5 72 = mI σ 72 := Fc.rowI 72 (by decide) (by decide)
    obtain ⟨m1, q1, f1, v1, z1⟩ := mo_types (N := N) (by omega) a1 (σ := s5) (by omega) w2
    obtain ⟨m2, q2, f2, v2, z2⟩ := mo_types (N := N) (by omega) a2 (σ := m1) (by omega) f1
    obtain ⟨m3, q3, f3, v3, z3⟩ := mo_types (N := N) (by omega) a3 (σ := m2) (by omega) f2
    obtain ⟨m4, q4, f4, v4, z4⟩ := mo_types (N := N) (by omega) a4 (σ := m3) (by omega) f3
    obtain ⟨m5, q5, f5, v5, z5⟩ := mo_types (N := N) (by omega) a5 (σ := m4) (by omega) f4
    have Fm := ((((fm_Mo_types q1).t (fm_Mo_types q2)).t (fm_Mo_types q3)).t (fm_Mo_types q4)).t (fm_Mo_types q5)
    refine ⟨nI (u + 4 + 4 + 4 + 4 + 4), s5, m5, ?_, ?_, ?_⟩
    · rw [if_neg c1]
      simp only [bnd1_s, if_neg ne10]
      rw [p1]; simp only [bnd1_s]
      rw [p2]; simp only [bnd1_s]
      rw [p3]; simp only [bnd1_s]
      rw [p4]; simp only [bnd1_s]
      rw [p5]; simp only [bnd1_s]
      rw [e5]
    · rw [w2, show nI u + 20 = nI (u + 20) from nI_add u 20, if_pos c2, q1]; simp only [bnd1_s]
      rw [q2]; simp only [bnd1_s]
      rw [q3]; simp only [bnd1_s]
      rw [q4]; simp only [bnd1_s]
      rw [q5]; simp only [bnd1_s]
      rw [f5]
    · have F : Fr [2, 72] [(1, 1), (65, 11)] σ m5 := (Fc.mono (by decide) (by decide)).t (Fm.mono (by decide) (by decide))
      have t0 : TB σ s5 u := fun j hj => by rw [r72]; exact u3 j hj
      have t1 := t0.add (σc' := s1) (σm' := m1) x1 y1 v1 z1
      have t2 := t1.add (σc' := s2) (σm' := m2) x2 y2 v2 z2
      have t3 := t2.add (σc' := s3) (σm' := m3) x3 y3 v3 z3
      have t4 := t3.add (σc' := s4) (σm' := m4) x4 y4 v4 z4
      have t5 := t4.add (σc' := s5) (σm' := m5) x5 y5 v5 z5
      refine ⟨k0.k (F.keeps (by decide)), k1.k (F.keeps (by decide)), ⟨u + 4 + 4 + 4 + 4 + 4, by omega, ?_, f5, fun j hj => ?_⟩, k3.k (F.keeps (by decide)), k4.k (F.keeps (by decide)), k5.k (F.keeps (by decide)), k6.k (F.keeps (by decide))⟩
      · exact (Fm.I 1 1 (by decide) (by decide)).trans e5
      · obtain ⟨b, b1, b2, b3⟩ := t5 j hj
        exact ⟨b, b1, (Fm.I 2 j (by decide) (by simp)).trans b2, b3⟩
