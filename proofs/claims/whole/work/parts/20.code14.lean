abbrev m_Mo_readsClause : MI := (⟨"ShadeTownModel", "readsClause", "()Z"⟩, prog_13_method_45_code, 2, (Option.some Jvm.ClassFile.FieldType.boolean))
theorem d_Mo_readsClause_0 : decode prog_13_method_45_code 0 = .ok (.aload_n 0, 1) := by decide +kernel
theorem d_Mo_readsClause_1 : decode prog_13_method_45_code 1 = .ok (.invokevirtual 218, 3) := by decide +kernel
theorem d_Mo_readsClause_4 : decode prog_13_method_45_code 4 = .ok (.istore_n 1, 1) := by decide +kernel
theorem d_Mo_readsClause_5 : decode prog_13_method_45_code 5 = .ok (.iload_n 1, 1) := by decide +kernel
theorem d_Mo_readsClause_6 : decode prog_13_method_45_code 6 = .ok (.invokestatic 289, 3) := by decide +kernel
theorem k_Mo_isClause : MOk m_Mo_isClause 1 ∧ Cond.static m_Mo_isClause.1 ∈ tblG := ⟨⟨atG 1645 (by decide +kernel) rfl, atG 122 (by decide +kernel) rfl, ⟨by decide, by decide⟩, by decide +kernel, by decide⟩, atG 1644 (by decide +kernel) rfl⟩
theorem lk_Mo_289 : Cond.methodLink "ShadeTownModel" 289 ⟨"ShadeTownModel", "isClause", "(I)Z"⟩ ∈ tblG := atG 1643 (by decide +kernel) rfl
theorem d_Mo_readsClause_22 : decode prog_13_method_45_code 22 = .ok (.aload_n 0, 1) := by decide +kernel
theorem fl_Mo_292 : FL "ShadeTownModel" 292 T_Mo 18 := atG 1350 (by decide +kernel) rfl
theorem d_Mo_readsClause_23 : decode prog_13_method_45_code 23 = .ok (.getfield 292, 3) := by decide +kernel
theorem d_Mo_readsClause_26 : decode prog_13_method_45_code 26 = .ok (.bipush 16, 2) := by decide +kernel
theorem d_Mo_readsClause_41 : decode prog_13_method_45_code 41 = .ok (.aload_n 0, 1) := by decide +kernel
theorem fl_Mo_38 : FL "ShadeTownModel" 38 T_Mo 23 := atG 1355 (by decide +kernel) rfl
theorem d_Mo_readsClause_42 : decode prog_13_method_45_code 42 = .ok (.getfield 38, 3) := by decide +kernel
theorem d_Mo_readsClause_45 : decode prog_13_method_45_code 45 = .ok (.aload_n 0, 1) := by decide +kernel
theorem d_Mo_readsClause_46 : decode prog_13_method_45_code 46 = .ok (.getfield 292, 3) := by decide +kernel
theorem d_Mo_readsClause_49 : decode prog_13_method_45_code 49 = .ok (.iload_n 1, 1) := by decide +kernel
theorem d_Mo_readsClause_50 : decode prog_13_method_45_code 50 = .ok (.iastore, 1) := by decide +kernel
theorem d_Mo_readsClause_51 : decode prog_13_method_45_code 51 = .ok (.aload_n 0, 1) := by decide +kernel
theorem d_Mo_readsClause_52 : decode prog_13_method_45_code 52 = .ok (.aload_n 0, 1) := by decide +kernel
theorem d_Mo_readsClause_53 : decode prog_13_method_45_code 53 = .ok (.getfield 212, 3) := by decide +kernel
theorem d_Mo_readsClause_56 : decode prog_13_method_45_code 56 = .ok (.iconst 1, 1) := by decide +kernel
theorem d_Mo_readsClause_57 : decode prog_13_method_45_code 57 = .ok (.iadd, 1) := by decide +kernel
theorem d_Mo_readsClause_58 : decode prog_13_method_45_code 58 = .ok (.putfield 212, 3) := by decide +kernel
theorem d_Mo_readsClause_61 : decode prog_13_method_45_code 61 = .ok (.aload_n 0, 1) := by decide +kernel
theorem fl_Mo_41 : FL "ShadeTownModel" 41 T_Mo 24 := atG 1356 (by decide +kernel) rfl
theorem d_Mo_readsClause_62 : decode prog_13_method_45_code 62 = .ok (.getfield 41, 3) := by decide +kernel
theorem d_Mo_readsClause_65 : decode prog_13_method_45_code 65 = .ok (.aload_n 0, 1) := by decide +kernel
theorem d_Mo_readsClause_66 : decode prog_13_method_45_code 66 = .ok (.getfield 292, 3) := by decide +kernel
theorem d_Mo_readsClause_69 : decode prog_13_method_45_code 69 = .ok (.aload_n 0, 1) := by decide +kernel
theorem d_Mo_readsClause_70 : decode prog_13_method_45_code 70 = .ok (.getfield 235, 3) := by decide +kernel
theorem d_Mo_readsClause_73 : decode prog_13_method_45_code 73 = .ok (.iastore, 1) := by decide +kernel
theorem d_Mo_readsClause_74 : decode prog_13_method_45_code 74 = .ok (.aload_n 0, 1) := by decide +kernel
theorem d_Mo_readsClause_75 : decode prog_13_method_45_code 75 = .ok (.iconst 0, 1) := by decide +kernel
theorem d_Mo_readsClause_76 : decode prog_13_method_45_code 76 = .ok (.putfield 239, 3) := by decide +kernel
theorem d_Mo_readsClause_79 : decode prog_13_method_45_code 79 = .ok (.aload_n 0, 1) := by decide +kernel
theorem d_Mo_readsClause_80 : decode prog_13_method_45_code 80 = .ok (.iconst 0, 1) := by decide +kernel
theorem d_Mo_readsClause_81 : decode prog_13_method_45_code 81 = .ok (.putfield 242, 3) := by decide +kernel
theorem d_Mo_readsClause_84 : decode prog_13_method_45_code 84 = .ok (.iload_n 1, 1) := by decide +kernel
theorem d_Mo_readsClause_85 : decode prog_13_method_45_code 85 = .ok (.bipush 117, 2) := by decide +kernel
theorem d_Mo_readsClause_90 : decode prog_13_method_45_code 90 = .ok (.aload_n 0, 1) := by decide +kernel
theorem d_Mo_readsClause_91 : decode prog_13_method_45_code 91 = .ok (.invokevirtual 274, 3) := by decide +kernel
theorem d_Mo_readsClause_94 : decode prog_13_method_45_code 94 = .ok (.ifCond .ne 5, 3) := by decide +kernel
theorem d_Mo_readsClause_87 : decode prog_13_method_45_code 87 = .ok (.if_icmp .eq 12, 3) := by decide +kernel
theorem d_Mo_readsClause_28 : decode prog_13_method_45_code 28 = .ok (.if_icmp .ne 13, 3) := by decide +kernel
theorem d_Mo_readsClause_9 : decode prog_13_method_45_code 9 = .ok (.ifCond .ne 13, 3) := by decide +kernel
theorem d_Mo_readsClause_99 : decode prog_13_method_45_code 99 = .ok (.aload_n 0, 1) := by decide +kernel
theorem fl_Mo_44 : FL "ShadeTownModel" 44 T_Mo 25 := atG 1357 (by decide +kernel) rfl
theorem d_Mo_readsClause_100 : decode prog_13_method_45_code 100 = .ok (.getfield 44, 3) := by decide +kernel
theorem d_Mo_readsClause_103 : decode prog_13_method_45_code 103 = .ok (.aload_n 0, 1) := by decide +kernel
theorem d_Mo_readsClause_104 : decode prog_13_method_45_code 104 = .ok (.getfield 292, 3) := by decide +kernel
theorem d_Mo_readsClause_107 : decode prog_13_method_45_code 107 = .ok (.aload_n 0, 1) := by decide +kernel
theorem d_Mo_readsClause_108 : decode prog_13_method_45_code 108 = .ok (.getfield 235, 3) := by decide +kernel
theorem d_Mo_readsClause_111 : decode prog_13_method_45_code 111 = .ok (.iastore, 1) := by decide +kernel
theorem d_Mo_readsClause_112 : decode prog_13_method_45_code 112 = .ok (.aload_n 0, 1) := by decide +kernel
theorem d_Mo_readsClause_113 : decode prog_13_method_45_code 113 = .ok (.invokevirtual 295, 3) := by decide +kernel
theorem k_Mo_readsCondition : MOk m_Mo_readsCondition 0 ∧ IOk m_Mo_readsCondition := ⟨⟨atG 1696 (by decide +kernel) rfl, atG 122 (by decide +kernel) rfl, ⟨by decide, by decide⟩, by decide +kernel, by decide⟩, atG 1695 (by decide +kernel) rfl, atG 60 (by decide +kernel) rfl⟩
theorem lk_Mo_295 : Cond.methodLink "ShadeTownModel" 295 ⟨"ShadeTownModel", "readsCondition", "()Z"⟩ ∈ tblG := atG 1693 (by decide +kernel) rfl
theorem d_Mo_readsClause_121 : decode prog_13_method_45_code 121 = .ok (.aload_n 0, 1) := by decide +kernel
theorem fl_Mo_47 : FL "ShadeTownModel" 47 T_Mo 26 := atG 1358 (by decide +kernel) rfl
theorem d_Mo_readsClause_122 : decode prog_13_method_45_code 122 = .ok (.getfield 47, 3) := by decide +kernel
theorem d_Mo_readsClause_125 : decode prog_13_method_45_code 125 = .ok (.aload_n 0, 1) := by decide +kernel
theorem d_Mo_readsClause_126 : decode prog_13_method_45_code 126 = .ok (.getfield 292, 3) := by decide +kernel
theorem d_Mo_readsClause_129 : decode prog_13_method_45_code 129 = .ok (.aload_n 0, 1) := by decide +kernel
theorem d_Mo_readsClause_130 : decode prog_13_method_45_code 130 = .ok (.getfield 235, 3) := by decide +kernel
theorem d_Mo_readsClause_133 : decode prog_13_method_45_code 133 = .ok (.iastore, 1) := by decide +kernel
theorem d_Mo_readsClause_134 : decode prog_13_method_45_code 134 = .ok (.aload_n 0, 1) := by decide +kernel
theorem d_Mo_readsClause_135 : decode prog_13_method_45_code 135 = .ok (.aload_n 0, 1) := by decide +kernel
theorem d_Mo_readsClause_136 : decode prog_13_method_45_code 136 = .ok (.getfield 292, 3) := by decide +kernel
theorem d_Mo_readsClause_139 : decode prog_13_method_45_code 139 = .ok (.iconst 1, 1) := by decide +kernel
theorem d_Mo_readsClause_140 : decode prog_13_method_45_code 140 = .ok (.iadd, 1) := by decide +kernel
theorem d_Mo_readsClause_141 : decode prog_13_method_45_code 141 = .ok (.putfield 292, 3) := by decide +kernel
theorem d_Mo_readsClause_144 : decode prog_13_method_45_code 144 = .ok (.iconst 1, 1) := by decide +kernel
theorem d_Mo_readsClause_145 : decode prog_13_method_45_code 145 = .ok (.ireturn, 1) := by decide +kernel
theorem d_Mo_readsClause_119 : decode prog_13_method_45_code 119 = .ok (.iconst 0, 1) := by decide +kernel
theorem d_Mo_readsClause_120 : decode prog_13_method_45_code 120 = .ok (.ireturn, 1) := by decide +kernel
theorem d_Mo_readsClause_116 : decode prog_13_method_45_code 116 = .ok (.ifCond .ne 5, 3) := by decide +kernel
theorem d_Mo_readsClause_97 : decode prog_13_method_45_code 97 = .ok (.iconst 0, 1) := by decide +kernel
theorem d_Mo_readsClause_98 : decode prog_13_method_45_code 98 = .ok (.ireturn, 1) := by decide +kernel
theorem d_Mo_readsClause_31 : decode prog_13_method_45_code 31 = .ok (.aload_n 0, 1) := by decide +kernel
theorem d_Mo_readsClause_32 : decode prog_13_method_45_code 32 = .ok (.iconst 4, 1) := by decide +kernel
theorem d_Mo_readsClause_33 : decode prog_13_method_45_code 33 = .ok (.aload_n 0, 1) := by decide +kernel
theorem d_Mo_readsClause_34 : decode prog_13_method_45_code 34 = .ok (.getfield 212, 3) := by decide +kernel
theorem d_Mo_readsClause_37 : decode prog_13_method_45_code 37 = .ok (.invokevirtual 225, 3) := by decide +kernel
theorem d_Mo_readsClause_40 : decode prog_13_method_45_code 40 = .ok (.ireturn, 1) := by decide +kernel
theorem d_Mo_readsClause_12 : decode prog_13_method_45_code 12 = .ok (.aload_n 0, 1) := by decide +kernel
theorem d_Mo_readsClause_13 : decode prog_13_method_45_code 13 = .ok (.iconst 1, 1) := by decide +kernel
theorem d_Mo_readsClause_14 : decode prog_13_method_45_code 14 = .ok (.aload_n 0, 1) := by decide +kernel
theorem d_Mo_readsClause_15 : decode prog_13_method_45_code 15 = .ok (.getfield 212, 3) := by decide +kernel
theorem d_Mo_readsClause_18 : decode prog_13_method_45_code 18 = .ok (.invokevirtual 225, 3) := by decide +kernel
theorem d_Mo_readsClause_21 : decode prog_13_method_45_code 21 = .ok (.ireturn, 1) := by decide +kernel
def f_Mo_readsClause (N : Nat) (σ : Mem) : Option (Int32 × Mem) :=
  bnd1 (f_Mo_here σ) fun r1 =>
  bnd1 (f_Mo_isClause r1) fun r6 =>
  bnd1 ((
    if r6 = 0 then
      (some (3, σ))
    else
      (if (mI σ 65 18) = 16 then
        (some (2, σ))
      else
        (grd (inb (mI σ 65 18) 16) <|
        letv (sI σ 75 ((mI σ 65 18).toNatClampNeg) r1) fun σ50 =>
        letv (sI σ50 65 12 ((mI σ50 65 12) + 1)) fun σ58 =>
        grd (inb (mI σ58 65 18) 16) <|
        letv (sI σ58 76 ((mI σ58 65 18).toNatClampNeg) (mI σ58 65 16)) fun σ73 =>
        letv (sI σ73 65 15 0) fun σ76 =>
        letv (sI σ76 65 17 0) fun σ81 =>
        if r1 = 117 then
          (some (0, σ81))
        else
          (bnd2 (f_Mo_readsSum N σ81) fun r91 σ91 =>
          if r91 = 0 then
            (some (1, σ91))
          else
            (some (0, σ91)))))) : Option (Nat × Mem)) fun s9b =>
  q2 s9b fun t9b σ9b_ =>
  if t9b = 0 then
    (grd (inb (mI σ9b_ 65 18) 16) <|
    letv (sI σ9b_ 77 ((mI σ9b_ 65 18).toNatClampNeg) (mI σ9b_ 65 16)) fun σ111 =>
    bnd2 (f_Mo_readsCondition N σ111) fun r113 σ113 =>
    if r113 = 0 then
      (some (0, σ113))
    else
      (grd (inb (mI σ113 65 18) 16) <|
      letv (sI σ113 78 ((mI σ113 65 18).toNatClampNeg) (mI σ113 65 16)) fun σ133 =>
      letv (sI σ133 65 18 ((mI σ133 65 18) + 1)) fun σ141 =>
      some (1, σ141)))
  else
  if t9b = 1 then
    (some (0, σ9b_))
  else
  if t9b = 2 then
    (bnd2 (f_Mo_wrongAt σ9b_ 4 (mI σ9b_ 65 12)) fun r37 σ37 =>
    grd (decide (r37 &&& 1 = r37)) (some (r37, σ37)))
  else
  (bnd2 (f_Mo_wrongAt σ9b_ 1 (mI σ9b_ 65 12)) fun r18 σ18 =>
  grd (decide (r18 &&& 1 = r18)) (some (r18, σ18)))
set_option maxHeartbeats 4000000 in
set_option maxRecDepth 20000 in
theorem c_Mo_readsClause (Z : ZX) {N : Nat} {σ : Mem} {r : Int32} {σ' : Mem} (h : f_Mo_readsClause N σ = some (r, σ')) : CI Z 7 m_Mo_readsClause [rf Z 65] σ r σ' := by
  refine Ct.of (by decide +kernel) (Nat.le_of_ble_eq_true rfl) (fun Y => ?_)
  show V (mkB Z) Y m_Mo_readsClause 7 (QP (mkB Z) Y nC 0 0 (fun v t => v = some (.int r) ∧ t = σ')) 0 0 nC σ 0 [(0, rf Z 65)] []
  unfold f_Mo_readsClause at h
  refine V.aload_n d_Mo_readsClause_0 rfl 0 rfl ?_
  obtain ⟨r1, h1, h⟩ := bnd1_e h
  refine V.vI (as := []) (st := []) (c_Mo_here Z h1) k_Mo_here lk_Mo_218 (by decide) rfl (by decide) ly_65 ok_Mo.1 rfl (Nat.le_of_ble_eq_true rfl) d_Mo_readsClause_1 ?_
  refine V.istore_n (lv' := [(1, .int r1), (0, rf Z 65)]) d_Mo_readsClause_4 rfl (by decide) rfl ?_
  refine V.iload_n d_Mo_readsClause_5 rfl 0 rfl ?_
  obtain ⟨r6, h1, h⟩ := bnd1_e h
  refine V.sI (as := [.int r1]) (st := []) (c_Mo_isClause Z h1) k_Mo_isClause lk_Mo_289 (by decide) rfl rfl (Nat.le_of_ble_eq_true rfl) d_Mo_readsClause_6 ?_
  obtain ⟨s9b, h1, h⟩ := bnd1_e h
  have J9b_99 : ∀ (σ9b_ : Mem), s9b = (0, σ9b_) → V (mkB Z) Y m_Mo_readsClause 7 (QP (mkB Z) Y nC 0 0 (fun v t => v = some (.int r) ∧ t = σ')) 0 0 nC σ9b_ 99 [(0, rf Z 65)] [] := by
    intro σ9b_ he
    rw [he] at h
    replace h := q2_e h
    replace h := ite_t rfl h
    refine V.aload_n d_Mo_readsClause_99 rfl 0 rfl ?_
    refine V.getR (r := 77) ok_Mo fl_Mo_44 (by decide) (by decide) ly_65 rfl d_Mo_readsClause_100 ?_
    refine V.aload_n d_Mo_readsClause_103 rfl 0 rfl ?_
    refine V.getI ok_Mo fl_Mo_292 (by decide) (by decide) ly_65 rfl d_Mo_readsClause_104 ?_
    refine V.aload_n d_Mo_readsClause_107 rfl 0 rfl ?_
    refine V.getI ok_Mo fl_Mo_235 (by decide) (by decide) ly_65 rfl d_Mo_readsClause_108 ?_
    obtain ⟨gq, h⟩ := grd_e h
    obtain ⟨σ111, e_σ111, h⟩ := letv_e h
    refine V.wa (by decide) ly_77 (inb_e gq) rfl d_Mo_readsClause_111 e_σ111 ?_
    refine V.aload_n d_Mo_readsClause_112 rfl 0 rfl ?_
    obtain ⟨r113, σ113, h1, h⟩ := bnd2_e h
    refine V.vI (as := []) (st := []) (c_Mo_readsCondition Z h1) k_Mo_readsCondition lk_Mo_295 (by decide) rfl (by decide) ly_65 ok_Mo.1 rfl (Nat.le_of_ble_eq_true rfl) d_Mo_readsClause_113 ?_
    refine V.if_ne (tgt := 121) d_Mo_readsClause_116 (by decide) (fun hc116 => ?_) (fun hc116 => ?_)
    · replace h := ite_f hc116 h
      refine V.aload_n d_Mo_readsClause_121 rfl 0 rfl ?_
      refine V.getR (r := 78) ok_Mo fl_Mo_47 (by decide) (by decide) ly_65 rfl d_Mo_readsClause_122 ?_
      refine V.aload_n d_Mo_readsClause_125 rfl 0 rfl ?_
      refine V.getI ok_Mo fl_Mo_292 (by decide) (by decide) ly_65 rfl d_Mo_readsClause_126 ?_
      refine V.aload_n d_Mo_readsClause_129 rfl 0 rfl ?_
      refine V.getI ok_Mo fl_Mo_235 (by decide) (by decide) ly_65 rfl d_Mo_readsClause_130 ?_
      obtain ⟨gq, h⟩ := grd_e h
      obtain ⟨σ133, e_σ133, h⟩ := letv_e h
      refine V.wa (by decide) ly_78 (inb_e gq) rfl d_Mo_readsClause_133 e_σ133 ?_
      refine V.aload_n d_Mo_readsClause_134 rfl 0 rfl ?_
      refine V.aload_n d_Mo_readsClause_135 rfl 0 rfl ?_
      refine V.getI ok_Mo fl_Mo_292 (by decide) (by decide) ly_65 rfl d_Mo_readsClause_136 ?_
      refine V.iconst (v := 1) d_Mo_readsClause_139 (by decide) ?_
      refine V.iadd d_Mo_readsClause_140 ?_
      obtain ⟨σ141, e_σ141, h⟩ := letv_e h
      refine V.putI ok_Mo fl_Mo_292 (by decide) (by decide) ly_65 rfl rfl rfl rfl d_Mo_readsClause_141 (V.mem e_σ141 ?_)
      refine V.iconst (v := 1) d_Mo_readsClause_144 (by decide) ?_
      cases h
      exact V.zret rfl rfl d_Mo_readsClause_145 ⟨rfl, rfl⟩
    · replace h := ite_t hc116 h
      refine V.iconst (v := 0) d_Mo_readsClause_119 (by decide) ?_
      cases h
      exact V.zret rfl rfl d_Mo_readsClause_120 ⟨rfl, rfl⟩
  have J9b_97 : ∀ (σ9b_ : Mem), s9b = (1, σ9b_) → V (mkB Z) Y m_Mo_readsClause 7 (QP (mkB Z) Y nC 0 0 (fun v t => v = some (.int r) ∧ t = σ')) 0 0 nC σ9b_ 97 [] [] := by
    intro σ9b_ he
    rw [he] at h
    replace h := q2_e h
    replace h := ite_f (by decide) h
    replace h := ite_t rfl h
    refine V.iconst (v := 0) d_Mo_readsClause_97 (by decide) ?_
    cases h
    exact V.zret rfl rfl d_Mo_readsClause_98 ⟨rfl, rfl⟩
  have J9b_31 : ∀ (σ9b_ : Mem), s9b = (2, σ9b_) → V (mkB Z) Y m_Mo_readsClause 7 (QP (mkB Z) Y nC 0 0 (fun v t => v = some (.int r) ∧ t = σ')) 0 0 nC σ9b_ 31 [(0, rf Z 65)] [] := by
    intro σ9b_ he
    rw [he] at h
    replace h := q2_e h
    replace h := ite_f (by decide) h
    replace h := ite_f (by decide) h
    replace h := ite_t rfl h
    refine V.aload_n d_Mo_readsClause_31 rfl 0 rfl ?_
    refine V.iconst (v := 4) d_Mo_readsClause_32 (by decide) ?_
    refine V.aload_n d_Mo_readsClause_33 rfl 0 rfl ?_
    refine V.getI ok_Mo fl_Mo_212 (by decide) (by decide) ly_65 rfl d_Mo_readsClause_34 ?_
    obtain ⟨r37, σ37, h1, h⟩ := bnd2_e h
    refine V.vI (as := [.int 4, .int (mI σ9b_ 65 12)]) (st := []) (c_Mo_wrongAt Z h1) k_Mo_wrongAt lk_Mo_225 (by decide) rfl (by decide) ly_65 ok_Mo.1 rfl (Nat.le_of_ble_eq_true rfl) d_Mo_readsClause_37 ?_
    obtain ⟨hz, h⟩ := grd_e h
    have hz := congrArg Value.int (of_decide_eq_true hz)
    cases h
    exact V.zret rfl hz d_Mo_readsClause_40 ⟨rfl, rfl⟩
  have J9b_12 : ∀ (σ9b_ : Mem), s9b = (3, σ9b_) → V (mkB Z) Y m_Mo_readsClause 7 (QP (mkB Z) Y nC 0 0 (fun v t => v = some (.int r) ∧ t = σ')) 0 0 nC σ9b_ 12 [(0, rf Z 65)] [] := by
    intro σ9b_ he
    rw [he] at h
    replace h := q2_e h
    replace h := ite_f (by decide) h
    replace h := ite_f (by decide) h
    replace h := ite_f (by decide) h
    refine V.aload_n d_Mo_readsClause_12 rfl 0 rfl ?_
    refine V.iconst (v := 1) d_Mo_readsClause_13 (by decide) ?_
    refine V.aload_n d_Mo_readsClause_14 rfl 0 rfl ?_
    refine V.getI ok_Mo fl_Mo_212 (by decide) (by decide) ly_65 rfl d_Mo_readsClause_15 ?_
    obtain ⟨r18, σ18, h1, h⟩ := bnd2_e h
    refine V.vI (as := [.int 1, .int (mI σ9b_ 65 12)]) (st := []) (c_Mo_wrongAt Z h1) k_Mo_wrongAt lk_Mo_225 (by decide) rfl (by decide) ly_65 ok_Mo.1 rfl (Nat.le_of_ble_eq_true rfl) d_Mo_readsClause_18 ?_
    obtain ⟨hz, h⟩ := grd_e h
    have hz := congrArg Value.int (of_decide_eq_true hz)
    cases h
    exact V.zret rfl hz d_Mo_readsClause_21 ⟨rfl, rfl⟩
  replace h := h1
  refine V.if_ne (tgt := 22) d_Mo_readsClause_9 (by decide) (fun hc9 => ?_) (fun hc9 => ?_)
  · replace h := ite_f hc9 h
    refine V.aload_n d_Mo_readsClause_22 rfl 1 rfl ?_
    refine V.getI ok_Mo fl_Mo_292 (by decide) (by decide) ly_65 rfl d_Mo_readsClause_23 ?_
    refine V.bipush (v := 16) d_Mo_readsClause_26 (by decide) ?_
    refine V.icmp_ne (tgt := 41) d_Mo_readsClause_28 (by decide) (fun hc28 => ?_) (fun hc28 => ?_)
    · replace h := ite_f hc28 h
      refine V.aload_n d_Mo_readsClause_41 rfl 1 rfl ?_
      refine V.getR (r := 75) ok_Mo fl_Mo_38 (by decide) (by decide) ly_65 rfl d_Mo_readsClause_42 ?_
      refine V.aload_n d_Mo_readsClause_45 rfl 1 rfl ?_
      refine V.getI ok_Mo fl_Mo_292 (by decide) (by decide) ly_65 rfl d_Mo_readsClause_46 ?_
      refine V.iload_n d_Mo_readsClause_49 rfl 0 rfl ?_
      obtain ⟨gq, h⟩ := grd_e h
      obtain ⟨σ50, e_σ50, h⟩ := letv_e h
      refine V.wa (by decide) ly_75 (inb_e gq) rfl d_Mo_readsClause_50 e_σ50 ?_
      refine V.aload_n d_Mo_readsClause_51 rfl 1 rfl ?_
      refine V.aload_n d_Mo_readsClause_52 rfl 1 rfl ?_
      refine V.getI ok_Mo fl_Mo_212 (by decide) (by decide) ly_65 rfl d_Mo_readsClause_53 ?_
      refine V.iconst (v := 1) d_Mo_readsClause_56 (by decide) ?_
      refine V.iadd d_Mo_readsClause_57 ?_
      obtain ⟨σ58, e_σ58, h⟩ := letv_e h
      refine V.putI ok_Mo fl_Mo_212 (by decide) (by decide) ly_65 rfl rfl rfl rfl d_Mo_readsClause_58 (V.mem e_σ58 ?_)
      refine V.aload_n d_Mo_readsClause_61 rfl 1 rfl ?_
      refine V.getR (r := 76) ok_Mo fl_Mo_41 (by decide) (by decide) ly_65 rfl d_Mo_readsClause_62 ?_
      refine V.aload_n d_Mo_readsClause_65 rfl 1 rfl ?_
      refine V.getI ok_Mo fl_Mo_292 (by decide) (by decide) ly_65 rfl d_Mo_readsClause_66 ?_
      refine V.aload_n d_Mo_readsClause_69 rfl 1 rfl ?_
      refine V.getI ok_Mo fl_Mo_235 (by decide) (by decide) ly_65 rfl d_Mo_readsClause_70 ?_
      obtain ⟨gq, h⟩ := grd_e h
      obtain ⟨σ73, e_σ73, h⟩ := letv_e h
      refine V.wa (by decide) ly_76 (inb_e gq) rfl d_Mo_readsClause_73 e_σ73 ?_
      refine V.aload_n d_Mo_readsClause_74 rfl 1 rfl ?_
      refine V.iconst (v := 0) d_Mo_readsClause_75 (by decide) ?_
      obtain ⟨σ76, e_σ76, h⟩ := letv_e h
      refine V.putI ok_Mo fl_Mo_239 (by decide) (by decide) ly_65 rfl rfl rfl rfl d_Mo_readsClause_76 (V.mem e_σ76 ?_)
      refine V.aload_n d_Mo_readsClause_79 rfl 1 rfl ?_
      refine V.iconst (v := 0) d_Mo_readsClause_80 (by decide) ?_
      obtain ⟨σ81, e_σ81, h⟩ := letv_e h
      refine V.putI ok_Mo fl_Mo_242 (by decide) (by decide) ly_65 rfl rfl rfl rfl d_Mo_readsClause_81 (V.mem e_σ81 ?_)
      refine V.iload_n d_Mo_readsClause_84 rfl 0 rfl ?_
      refine V.bipush (v := 117) d_Mo_readsClause_85 (by decide) ?_
      refine V.icmp_eq (tgt := 99) d_Mo_readsClause_87 (by decide) (fun hc87 => ?_) (fun hc87 => ?_)
      · replace h := ite_t hc87 h
        exact V.pick [1] rfl (J9b_99 _ (Option.some.inj h).symm)
      · replace h := ite_f hc87 h
        refine V.aload_n d_Mo_readsClause_90 rfl 1 rfl ?_
        obtain ⟨r91, σ91, h1, h⟩ := bnd2_e h
        refine V.vI (as := []) (st := []) (c_Mo_readsSum Z h1) k_Mo_readsSum lk_Mo_274 (by decide) rfl (by decide) ly_65 ok_Mo.1 rfl (Nat.le_of_ble_eq_true rfl) d_Mo_readsClause_91 ?_
        refine V.if_ne (tgt := 99) d_Mo_readsClause_94 (by decide) (fun hc94 => ?_) (fun hc94 => ?_)
        · replace h := ite_f hc94 h
          exact V.pick [1] rfl (J9b_99 _ (Option.some.inj h).symm)
        · replace h := ite_t hc94 h
          exact V.pick [] rfl (J9b_97 _ (Option.some.inj h).symm)
    · replace h := ite_t hc28 h
      exact V.pick [1] rfl (J9b_31 _ (Option.some.inj h).symm)
  · replace h := ite_t hc9 h
    exact V.pick [1] rfl (J9b_12 _ (Option.some.inj h).symm)
abbrev m_Mo_takes : MI := (⟨"ShadeTownModel", "takes", "(I)Z"⟩, prog_13_method_28_code, 2, (Option.some Jvm.ClassFile.FieldType.boolean))
theorem d_Mo_takes_0 : decode prog_13_method_28_code 0 = .ok (.aload_n 0, 1) := by decide +kernel
theorem d_Mo_takes_1 : decode prog_13_method_28_code 1 = .ok (.invokevirtual 218, 3) := by decide +kernel
theorem d_Mo_takes_4 : decode prog_13_method_28_code 4 = .ok (.iload_n 1, 1) := by decide +kernel
theorem d_Mo_takes_18 : decode prog_13_method_28_code 18 = .ok (.aload_n 0, 1) := by decide +kernel
theorem d_Mo_takes_19 : decode prog_13_method_28_code 19 = .ok (.aload_n 0, 1) := by decide +kernel
theorem d_Mo_takes_20 : decode prog_13_method_28_code 20 = .ok (.getfield 212, 3) := by decide +kernel
theorem d_Mo_takes_23 : decode prog_13_method_28_code 23 = .ok (.iconst 1, 1) := by decide +kernel
theorem d_Mo_takes_24 : decode prog_13_method_28_code 24 = .ok (.iadd, 1) := by decide +kernel
theorem d_Mo_takes_25 : decode prog_13_method_28_code 25 = .ok (.putfield 212, 3) := by decide +kernel
theorem d_Mo_takes_28 : decode prog_13_method_28_code 28 = .ok (.iconst 1, 1) := by decide +kernel
theorem d_Mo_takes_29 : decode prog_13_method_28_code 29 = .ok (.ireturn, 1) := by decide +kernel
theorem d_Mo_takes_8 : decode prog_13_method_28_code 8 = .ok (.aload_n 0, 1) := by decide +kernel
theorem d_Mo_takes_9 : decode prog_13_method_28_code 9 = .ok (.iconst 1, 1) := by decide +kernel
theorem d_Mo_takes_10 : decode prog_13_method_28_code 10 = .ok (.aload_n 0, 1) := by decide +kernel
theorem d_Mo_takes_11 : decode prog_13_method_28_code 11 = .ok (.getfield 212, 3) := by decide +kernel
theorem d_Mo_takes_14 : decode prog_13_method_28_code 14 = .ok (.invokevirtual 225, 3) := by decide +kernel
theorem d_Mo_takes_17 : decode prog_13_method_28_code 17 = .ok (.ireturn, 1) := by decide +kernel
theorem d_Mo_takes_5 : decode prog_13_method_28_code 5 = .ok (.if_icmp .eq 13, 3) := by decide +kernel
def f_Mo_takes (σ : Mem) (a1 : Int32) : Option (Int32 × Mem) :=
  bnd1 (f_Mo_here σ) fun r1 =>
  if r1 = a1 then
    (letv (sI σ 65 12 ((mI σ 65 12) + 1)) fun σ25 =>
    some (1, σ25))
  else
    (bnd2 (f_Mo_wrongAt σ 1 (mI σ 65 12)) fun r14 σ14 =>
    grd (decide (r14 &&& 1 = r14)) (some (r14, σ14)))
set_option maxHeartbeats 4000000 in
set_option maxRecDepth 20000 in
theorem c_Mo_takes (Z : ZX) {σ : Mem} {a1 : Int32} {r : Int32} {σ' : Mem} (h : f_Mo_takes σ a1 = some (r, σ')) : CI Z 1 m_Mo_takes [rf Z 65, .int a1] σ r σ' := by
  refine Ct.of (by decide +kernel) (Nat.le_of_ble_eq_true rfl) (fun Y => ?_)
  show V (mkB Z) Y m_Mo_takes 1 (QP (mkB Z) Y nC 0 0 (fun v t => v = some (.int r) ∧ t = σ')) 0 0 nC σ 0 [(0, rf Z 65), (1, .int a1)] []
  unfold f_Mo_takes at h
  refine V.aload_n d_Mo_takes_0 rfl 0 rfl ?_
  obtain ⟨r1, h1, h⟩ := bnd1_e h
  refine V.vI (as := []) (st := []) (c_Mo_here Z h1) k_Mo_here lk_Mo_218 (by decide) rfl (by decide) ly_65 ok_Mo.1 rfl (Nat.le_of_ble_eq_true rfl) d_Mo_takes_1 ?_
  refine V.iload_n d_Mo_takes_4 rfl 1 rfl ?_
  refine V.icmp_eq (tgt := 18) d_Mo_takes_5 (by decide) (fun hc5 => ?_) (fun hc5 => ?_)
  · replace h := ite_t hc5 h
    refine V.aload_n d_Mo_takes_18 rfl 0 rfl ?_
    refine V.aload_n d_Mo_takes_19 rfl 0 rfl ?_
    refine V.getI ok_Mo fl_Mo_212 (by decide) (by decide) ly_65 rfl d_Mo_takes_20 ?_
    refine V.iconst (v := 1) d_Mo_takes_23 (by decide) ?_
    refine V.iadd d_Mo_takes_24 ?_
    obtain ⟨σ25, e_σ25, h⟩ := letv_e h
    refine V.putI ok_Mo fl_Mo_212 (by decide) (by decide) ly_65 rfl rfl rfl rfl d_Mo_takes_25 (V.mem e_σ25 ?_)
    refine V.iconst (v := 1) d_Mo_takes_28 (by decide) ?_
    cases h
    exact V.zret rfl rfl d_Mo_takes_29 ⟨rfl, rfl⟩
  · replace h := ite_f hc5 h
    refine V.aload_n d_Mo_takes_8 rfl 0 rfl ?_
    refine V.iconst (v := 1) d_Mo_takes_9 (by decide) ?_
    refine V.aload_n d_Mo_takes_10 rfl 0 rfl ?_
    refine V.getI ok_Mo fl_Mo_212 (by decide) (by decide) ly_65 rfl d_Mo_takes_11 ?_
    obtain ⟨r14, σ14, h1, h⟩ := bnd2_e h
    refine V.vI (as := [.int 1, .int (mI σ 65 12)]) (st := []) (c_Mo_wrongAt Z h1) k_Mo_wrongAt lk_Mo_225 (by decide) rfl (by decide) ly_65 ok_Mo.1 rfl (Nat.le_of_ble_eq_true rfl) d_Mo_takes_14 ?_
    obtain ⟨hz, h⟩ := grd_e h
    have hz := congrArg Value.int (of_decide_eq_true hz)
    cases h
    exact V.zret rfl hz d_Mo_takes_17 ⟨rfl, rfl⟩
abbrev m_Mo_law : MI := (⟨"ShadeTownModel", "law", "(I)I"⟩, prog_13_method_46_code, 4, (Option.some Jvm.ClassFile.FieldType.int))
theorem d_Mo_law_0 : decode prog_13_method_46_code 0 = .ok (.iload_n 1, 1) := by decide +kernel
theorem d_Mo_law_1 : decode prog_13_method_46_code 1 = .ok (.iconst 1, 1) := by decide +kernel
theorem d_Mo_law_2 : decode prog_13_method_46_code 2 = .ok (.sipush 240, 3) := by decide +kernel
theorem d_Mo_law_5 : decode prog_13_method_46_code 5 = .ok (.invokestatic 188, 3) := by decide +kernel
theorem k_Mo_in : MOk m_Mo_in 3 ∧ Cond.static m_Mo_in.1 ∈ tblG := ⟨⟨atG 1579 (by decide +kernel) rfl, atG 122 (by decide +kernel) rfl, ⟨by decide, by decide⟩, by decide +kernel, by decide⟩, atG 1578 (by decide +kernel) rfl⟩
theorem lk_Mo_188 : Cond.methodLink "ShadeTownModel" 188 ⟨"ShadeTownModel", "in", "(III)Z"⟩ ∈ tblG := atG 1577 (by decide +kernel) rfl
theorem d_Mo_law_19 : decode prog_13_method_46_code 19 = .ok (.iconst (-1), 1) := by decide +kernel
theorem d_Mo_law_20 : decode prog_13_method_46_code 20 = .ok (.ireturn, 1) := by decide +kernel
theorem d_Mo_law_11 : decode prog_13_method_46_code 11 = .ok (.iload_n 1, 1) := by decide +kernel
theorem d_Mo_law_12 : decode prog_13_method_46_code 12 = .ok (.aload_n 0, 1) := by decide +kernel
theorem d_Mo_law_13 : decode prog_13_method_46_code 13 = .ok (.getfield 205, 3) := by decide +kernel
theorem d_Mo_law_21 : decode prog_13_method_46_code 21 = .ok (.aload_n 0, 1) := by decide +kernel
theorem d_Mo_law_22 : decode prog_13_method_46_code 22 = .ok (.iconst 0, 1) := by decide +kernel
theorem d_Mo_law_23 : decode prog_13_method_46_code 23 = .ok (.putfield 212, 3) := by decide +kernel
theorem d_Mo_law_26 : decode prog_13_method_46_code 26 = .ok (.aload_n 0, 1) := by decide +kernel
theorem d_Mo_law_27 : decode prog_13_method_46_code 27 = .ok (.iload_n 1, 1) := by decide +kernel
theorem d_Mo_law_28 : decode prog_13_method_46_code 28 = .ok (.putfield 215, 3) := by decide +kernel
theorem d_Mo_law_31 : decode prog_13_method_46_code 31 = .ok (.aload_n 0, 1) := by decide +kernel
theorem d_Mo_law_32 : decode prog_13_method_46_code 32 = .ok (.iconst 0, 1) := by decide +kernel
theorem d_Mo_law_33 : decode prog_13_method_46_code 33 = .ok (.putfield 235, 3) := by decide +kernel
theorem d_Mo_law_36 : decode prog_13_method_46_code 36 = .ok (.aload_n 0, 1) := by decide +kernel
theorem d_Mo_law_37 : decode prog_13_method_46_code 37 = .ok (.iconst 0, 1) := by decide +kernel
theorem d_Mo_law_38 : decode prog_13_method_46_code 38 = .ok (.putfield 292, 3) := by decide +kernel
theorem d_Mo_law_41 : decode prog_13_method_46_code 41 = .ok (.aload_n 0, 1) := by decide +kernel
theorem d_Mo_law_42 : decode prog_13_method_46_code 42 = .ok (.invokevirtual 298, 3) := by decide +kernel
theorem k_Mo_readsClause : MOk m_Mo_readsClause 0 ∧ IOk m_Mo_readsClause := ⟨⟨atG 1638 (by decide +kernel) rfl, atG 122 (by decide +kernel) rfl, ⟨by decide, by decide⟩, by decide +kernel, by decide⟩, atG 1637 (by decide +kernel) rfl, atG 48 (by decide +kernel) rfl⟩
theorem lk_Mo_298 : Cond.methodLink "ShadeTownModel" 298 ⟨"ShadeTownModel", "readsClause", "()Z"⟩ ∈ tblG := atG 1635 (by decide +kernel) rfl
theorem d_Mo_law_45 : decode prog_13_method_46_code 45 = .ok (.istore_n 2, 1) := by decide +kernel
theorem d_Mo_law_46 : decode prog_13_method_46_code 46 = .ok (.iload_n 2, 1) := by decide +kernel
theorem d_Mo_law_50 : decode prog_13_method_46_code 50 = .ok (.aload_n 0, 1) := by decide +kernel
theorem d_Mo_law_51 : decode prog_13_method_46_code 51 = .ok (.getfield 212, 3) := by decide +kernel
theorem d_Mo_law_54 : decode prog_13_method_46_code 54 = .ok (.aload_n 0, 1) := by decide +kernel
theorem d_Mo_law_55 : decode prog_13_method_46_code 55 = .ok (.getfield 215, 3) := by decide +kernel
theorem d_Mo_law_61 : decode prog_13_method_46_code 61 = .ok (.aload_n 0, 1) := by decide +kernel
theorem d_Mo_law_62 : decode prog_13_method_46_code 62 = .ok (.bipush 59, 2) := by decide +kernel
theorem d_Mo_law_64 : decode prog_13_method_46_code 64 = .ok (.invokevirtual 301, 3) := by decide +kernel
theorem k_Mo_takes : MOk m_Mo_takes 1 ∧ IOk m_Mo_takes := ⟨⟨atG 1716 (by decide +kernel) rfl, atG 122 (by decide +kernel) rfl, ⟨by decide, by decide⟩, by decide +kernel, by decide⟩, atG 1715 (by decide +kernel) rfl, atG 65 (by decide +kernel) rfl⟩
theorem lk_Mo_301 : Cond.methodLink "ShadeTownModel" 301 ⟨"ShadeTownModel", "takes", "(I)Z"⟩ ∈ tblG := atG 1713 (by decide +kernel) rfl
theorem d_Mo_law_70 : decode prog_13_method_46_code 70 = .ok (.aload_n 0, 1) := by decide +kernel
theorem d_Mo_law_71 : decode prog_13_method_46_code 71 = .ok (.invokevirtual 298, 3) := by decide +kernel
theorem d_Mo_law_74 : decode prog_13_method_46_code 74 = .ok (.ifCond .eq 7, 3) := by decide +kernel
theorem d_Mo_law_67 : decode prog_13_method_46_code 67 = .ok (.ifCond .eq 14, 3) := by decide +kernel
theorem d_Mo_law_81 : decode prog_13_method_46_code 81 = .ok (.iconst 0, 1) := by decide +kernel
theorem d_Mo_law_77 : decode prog_13_method_46_code 77 = .ok (.iconst 1, 1) := by decide +kernel
theorem d_Mo_law_78 : decode prog_13_method_46_code 78 = .ok (.goto 4, 3) := by decide +kernel
theorem d_Mo_law_82 : decode prog_13_method_46_code 82 = .ok (.istore_n 2, 1) := by decide +kernel
theorem d_Mo_law_83 : decode prog_13_method_46_code 83 = .ok (.goto (-37), 3) := by decide +kernel
theorem d_Mo_law_58 : decode prog_13_method_46_code 58 = .ok (.if_icmp .ge 28, 3) := by decide +kernel
theorem d_Mo_law_47 : decode prog_13_method_46_code 47 = .ok (.ifCond .eq 39, 3) := by decide +kernel
theorem d_Mo_law_86 : decode prog_13_method_46_code 86 = .ok (.aload_n 0, 1) := by decide +kernel
theorem d_Mo_law_87 : decode prog_13_method_46_code 87 = .ok (.iconst 0, 1) := by decide +kernel
theorem d_Mo_law_88 : decode prog_13_method_46_code 88 = .ok (.putfield 205, 3) := by decide +kernel
theorem d_Mo_law_91 : decode prog_13_method_46_code 91 = .ok (.iload_n 2, 1) := by decide +kernel
theorem d_Mo_law_100 : decode prog_13_method_46_code 100 = .ok (.aload_n 0, 1) := by decide +kernel
theorem d_Mo_law_101 : decode prog_13_method_46_code 101 = .ok (.aload_n 0, 1) := by decide +kernel
theorem d_Mo_law_102 : decode prog_13_method_46_code 102 = .ok (.getfield 292, 3) := by decide +kernel
theorem fl_Mo_304 : FL "ShadeTownModel" 304 T_Mo 20 := atG 1352 (by decide +kernel) rfl
theorem d_Mo_law_105 : decode prog_13_method_46_code 105 = .ok (.putfield 304, 3) := by decide +kernel
theorem d_Mo_law_108 : decode prog_13_method_46_code 108 = .ok (.iconst 0, 1) := by decide +kernel
theorem d_Mo_law_109 : decode prog_13_method_46_code 109 = .ok (.istore_n 3, 1) := by decide +kernel
theorem d_Mo_law_110 : decode prog_13_method_46_code 110 = .ok (.iload_n 3, 1) := by decide +kernel
theorem d_Mo_law_111 : decode prog_13_method_46_code 111 = .ok (.aload_n 0, 1) := by decide +kernel
theorem d_Mo_law_112 : decode prog_13_method_46_code 112 = .ok (.getfield 235, 3) := by decide +kernel
theorem d_Mo_law_118 : decode prog_13_method_46_code 118 = .ok (.aload_n 0, 1) := by decide +kernel
theorem fl_Mo_50 : FL "ShadeTownModel" 50 T_Mo 27 := atG 1359 (by decide +kernel) rfl
theorem d_Mo_law_119 : decode prog_13_method_46_code 119 = .ok (.getfield 50, 3) := by decide +kernel
theorem d_Mo_law_122 : decode prog_13_method_46_code 122 = .ok (.iload_n 3, 1) := by decide +kernel
theorem d_Mo_law_123 : decode prog_13_method_46_code 123 = .ok (.aload_n 0, 1) := by decide +kernel
theorem d_Mo_law_124 : decode prog_13_method_46_code 124 = .ok (.getfield 32, 3) := by decide +kernel
theorem d_Mo_law_127 : decode prog_13_method_46_code 127 = .ok (.iload_n 3, 1) := by decide +kernel
theorem d_Mo_law_128 : decode prog_13_method_46_code 128 = .ok (.iaload, 1) := by decide +kernel
theorem d_Mo_law_129 : decode prog_13_method_46_code 129 = .ok (.iastore, 1) := by decide +kernel
theorem d_Mo_law_130 : decode prog_13_method_46_code 130 = .ok (.iinc 3 1, 3) := by decide +kernel
theorem d_Mo_law_133 : decode prog_13_method_46_code 133 = .ok (.goto (-23), 3) := by decide +kernel
theorem d_Mo_law_115 : decode prog_13_method_46_code 115 = .ok (.if_icmp .ge 21, 3) := by decide +kernel
theorem d_Mo_law_136 : decode prog_13_method_46_code 136 = .ok (.iconst 0, 1) := by decide +kernel
theorem d_Mo_law_137 : decode prog_13_method_46_code 137 = .ok (.istore_n 3, 1) := by decide +kernel
theorem d_Mo_law_138 : decode prog_13_method_46_code 138 = .ok (.iload_n 3, 1) := by decide +kernel
theorem d_Mo_law_139 : decode prog_13_method_46_code 139 = .ok (.aload_n 0, 1) := by decide +kernel
theorem d_Mo_law_140 : decode prog_13_method_46_code 140 = .ok (.getfield 292, 3) := by decide +kernel
theorem d_Mo_law_200 : decode prog_13_method_46_code 200 = .ok (.aload_n 0, 1) := by decide +kernel
theorem d_Mo_law_201 : decode prog_13_method_46_code 201 = .ok (.getfield 292, 3) := by decide +kernel
theorem d_Mo_law_204 : decode prog_13_method_46_code 204 = .ok (.ireturn, 1) := by decide +kernel
theorem d_Mo_law_146 : decode prog_13_method_46_code 146 = .ok (.aload_n 0, 1) := by decide +kernel
theorem fl_Mo_53 : FL "ShadeTownModel" 53 T_Mo 28 := atG 1360 (by decide +kernel) rfl
theorem d_Mo_law_147 : decode prog_13_method_46_code 147 = .ok (.getfield 53, 3) := by decide +kernel
theorem d_Mo_law_150 : decode prog_13_method_46_code 150 = .ok (.iload_n 3, 1) := by decide +kernel
theorem d_Mo_law_151 : decode prog_13_method_46_code 151 = .ok (.aload_n 0, 1) := by decide +kernel
theorem d_Mo_law_152 : decode prog_13_method_46_code 152 = .ok (.getfield 38, 3) := by decide +kernel
theorem d_Mo_law_155 : decode prog_13_method_46_code 155 = .ok (.iload_n 3, 1) := by decide +kernel
theorem d_Mo_law_156 : decode prog_13_method_46_code 156 = .ok (.iaload, 1) := by decide +kernel
theorem d_Mo_law_157 : decode prog_13_method_46_code 157 = .ok (.iastore, 1) := by decide +kernel
theorem d_Mo_law_158 : decode prog_13_method_46_code 158 = .ok (.aload_n 0, 1) := by decide +kernel
theorem fl_Mo_56 : FL "ShadeTownModel" 56 T_Mo 29 := atG 1361 (by decide +kernel) rfl
theorem d_Mo_law_159 : decode prog_13_method_46_code 159 = .ok (.getfield 56, 3) := by decide +kernel
theorem d_Mo_law_162 : decode prog_13_method_46_code 162 = .ok (.iload_n 3, 1) := by decide +kernel
theorem d_Mo_law_163 : decode prog_13_method_46_code 163 = .ok (.aload_n 0, 1) := by decide +kernel
theorem d_Mo_law_164 : decode prog_13_method_46_code 164 = .ok (.getfield 41, 3) := by decide +kernel
theorem d_Mo_law_167 : decode prog_13_method_46_code 167 = .ok (.iload_n 3, 1) := by decide +kernel
theorem d_Mo_law_168 : decode prog_13_method_46_code 168 = .ok (.iaload, 1) := by decide +kernel
theorem d_Mo_law_169 : decode prog_13_method_46_code 169 = .ok (.iastore, 1) := by decide +kernel
theorem d_Mo_law_170 : decode prog_13_method_46_code 170 = .ok (.aload_n 0, 1) := by decide +kernel
theorem fl_Mo_59 : FL "ShadeTownModel" 59 T_Mo 30 := atG 1362 (by decide +kernel) rfl
theorem d_Mo_law_171 : decode prog_13_method_46_code 171 = .ok (.getfield 59, 3) := by decide +kernel
theorem d_Mo_law_174 : decode prog_13_method_46_code 174 = .ok (.iload_n 3, 1) := by decide +kernel
theorem d_Mo_law_175 : decode prog_13_method_46_code 175 = .ok (.aload_n 0, 1) := by decide +kernel
theorem d_Mo_law_176 : decode prog_13_method_46_code 176 = .ok (.getfield 44, 3) := by decide +kernel
theorem d_Mo_law_179 : decode prog_13_method_46_code 179 = .ok (.iload_n 3, 1) := by decide +kernel
theorem d_Mo_law_180 : decode prog_13_method_46_code 180 = .ok (.iaload, 1) := by decide +kernel
theorem d_Mo_law_181 : decode prog_13_method_46_code 181 = .ok (.iastore, 1) := by decide +kernel
theorem d_Mo_law_182 : decode prog_13_method_46_code 182 = .ok (.aload_n 0, 1) := by decide +kernel
theorem fl_Mo_62 : FL "ShadeTownModel" 62 T_Mo 31 := atG 1363 (by decide +kernel) rfl
theorem d_Mo_law_183 : decode prog_13_method_46_code 183 = .ok (.getfield 62, 3) := by decide +kernel
theorem d_Mo_law_186 : decode prog_13_method_46_code 186 = .ok (.iload_n 3, 1) := by decide +kernel
theorem d_Mo_law_187 : decode prog_13_method_46_code 187 = .ok (.aload_n 0, 1) := by decide +kernel
theorem d_Mo_law_188 : decode prog_13_method_46_code 188 = .ok (.getfield 47, 3) := by decide +kernel
theorem d_Mo_law_191 : decode prog_13_method_46_code 191 = .ok (.iload_n 3, 1) := by decide +kernel
theorem d_Mo_law_192 : decode prog_13_method_46_code 192 = .ok (.iaload, 1) := by decide +kernel
theorem d_Mo_law_193 : decode prog_13_method_46_code 193 = .ok (.iastore, 1) := by decide +kernel
theorem d_Mo_law_194 : decode prog_13_method_46_code 194 = .ok (.iinc 3 1, 3) := by decide +kernel
theorem d_Mo_law_197 : decode prog_13_method_46_code 197 = .ok (.goto (-59), 3) := by decide +kernel
theorem d_Mo_law_143 : decode prog_13_method_46_code 143 = .ok (.if_icmp .ge 57, 3) := by decide +kernel
theorem d_Mo_law_95 : decode prog_13_method_46_code 95 = .ok (.aload_n 0, 1) := by decide +kernel
theorem d_Mo_law_96 : decode prog_13_method_46_code 96 = .ok (.getfield 222, 3) := by decide +kernel
theorem d_Mo_law_99 : decode prog_13_method_46_code 99 = .ok (.ireturn, 1) := by decide +kernel
theorem d_Mo_law_92 : decode prog_13_method_46_code 92 = .ok (.ifCond .ne 8, 3) := by decide +kernel
theorem d_Mo_law_16 : decode prog_13_method_46_code 16 = .ok (.if_icmp .le 5, 3) := by decide +kernel
theorem d_Mo_law_8 : decode prog_13_method_46_code 8 = .ok (.ifCond .eq 11, 3) := by decide +kernel
def B_Mo_law_l46 (N : Nat) (rec : Int32 → Mem → Option (Int32 × Mem)) (x2 : Int32) (σ : Mem) : Option (Int32 × Mem) :=
  if x2 = 0 then
    (some (x2, σ))
  else
    (if (mI σ 65 13) ≤ (mI σ 65 12) then
      (some (x2, σ))
    else
      (bnd2 (f_Mo_takes σ 59) fun r64 σ64 =>
      bnd1 ((
        bnd1 ((
          if r64 = 0 then
            (some (0, σ64))
          else
            (bnd2 (f_Mo_readsClause N σ64) fun r71 σ71 =>
            if r71 = 0 then
              (some (0, σ71))
            else
              (some (1, σ71)))) : Option (Nat × Mem)) fun s67b =>
        q2 s67b fun t67b σ67b_ =>
        if t67b = 0 then
          (some (0, σ67b_))
        else
        (some (1, σ67b_))) : Option (Int32 × Mem)) fun s67 =>
      q2 s67 fun y67_s0 σ67_ =>
      rec y67_s0 σ67_))
def L_Mo_law_l46 (N : Nat) : Nat → Int32 → Mem → Option (Int32 × Mem)
  | 0, _, _ => none
  | k + 1, x2, σ => B_Mo_law_l46 N (L_Mo_law_l46 N k) x2 σ
set_option maxHeartbeats 4000000 in
set_option maxRecDepth 20000 in
theorem cL_Mo_law_l46 (Z : ZX) {Y : YX} {Q : State → Prop} {N : Nat} {Good : Int32 × Mem → Prop} (hE : ∀ (o2 : Int32) (σe : Mem), Good (o2, σe) → V (mkB Z) Y m_Mo_law 8 Q 0 0 nC σe 86 [(0, rf Z 65), (2, .int o2)] []) : ∀ (k : Nat) (x2 : Int32) (σ : Mem) (res : Int32 × Mem), L_Mo_law_l46 N k x2 σ = some res → Good res → V (mkB Z) Y m_Mo_law 8 Q 0 0 nC σ 46 [(0, rf Z 65), (2, .int x2)] [] := by
  intro k
  induction k with
  | zero => intro x2 σ res h; cases h
  | succ k ih =>
    intro x2 σ res h hg
    replace h : B_Mo_law_l46 N (L_Mo_law_l46 N k) x2 σ = some res := h
    unfold B_Mo_law_l46 at h
    refine V.iload_n d_Mo_law_46 rfl 1 rfl ?_
    refine V.if_eq (tgt := 86) d_Mo_law_47 (by decide) (fun hc47 => ?_) (fun hc47 => ?_)
    · replace h := ite_t hc47 h
      cases h
      exact V.pick [0, 1] rfl (hE _ _ hg)
    · replace h := ite_f hc47 h
      refine V.aload_n d_Mo_law_50 rfl 0 rfl ?_
      refine V.getI ok_Mo fl_Mo_212 (by decide) (by decide) ly_65 rfl d_Mo_law_51 ?_
      refine V.aload_n d_Mo_law_54 rfl 0 rfl ?_
      refine V.getI ok_Mo fl_Mo_215 (by decide) (by decide) ly_65 rfl d_Mo_law_55 ?_
      refine V.icmp_ge (tgt := 86) d_Mo_law_58 (by decide) (fun hc58 => ?_) (fun hc58 => ?_)
      · replace h := ite_t hc58 h
        cases h
        exact V.pick [0, 1] rfl (hE _ _ hg)
      · replace h := ite_f hc58 h
        refine V.aload_n d_Mo_law_61 rfl 0 rfl ?_
        refine V.bipush (v := 59) d_Mo_law_62 (by decide) ?_
        obtain ⟨r64, σ64, h1, h⟩ := bnd2_e h
        refine V.vI (as := [.int 59]) (st := []) (c_Mo_takes Z h1) k_Mo_takes lk_Mo_301 (by decide) rfl (by decide) ly_65 ok_Mo.1 rfl (Nat.le_of_ble_eq_true rfl) d_Mo_law_64 ?_
        obtain ⟨s67, h1, h⟩ := bnd1_e h
        have J67_82 : ∀ (y67_s0 : Int32) (σ67_ : Mem), s67 = (y67_s0, σ67_) → V (mkB Z) Y m_Mo_law 8 Q 0 0 nC σ67_ 82 [(0, rf Z 65)] [.int y67_s0] := by
          intro y67_s0 σ67_ he
          rw [he] at h
          replace h := q2_e h
          refine V.istore_n (lv' := [(2, .int y67_s0), (0, rf Z 65)]) d_Mo_law_82 rfl (by decide) rfl ?_
          refine V.goto (tgt := 46) d_Mo_law_83 (by decide) ?_
          exact V.pick [1, 0] rfl (ih _ _ _ h hg)
        replace h := h1
        obtain ⟨s67b, h1, h⟩ := bnd1_e h
        have J67b_81 : ∀ (σ67b_ : Mem), s67b = (0, σ67b_) → V (mkB Z) Y m_Mo_law 8 Q 0 0 nC σ67b_ 81 [(0, rf Z 65)] [] := by
          intro σ67b_ he
          rw [he] at h
          replace h := q2_e h
          replace h := ite_t rfl h
          refine V.iconst (v := 0) d_Mo_law_81 (by decide) ?_
          exact V.pick [0] rfl (J67_82 _ _ (Option.some.inj h).symm)
        have J67b_77 : ∀ (σ67b_ : Mem), s67b = (1, σ67b_) → V (mkB Z) Y m_Mo_law 8 Q 0 0 nC σ67b_ 77 [(0, rf Z 65)] [] := by
          intro σ67b_ he
          rw [he] at h
          replace h := q2_e h
          replace h := ite_f (by decide) h
          refine V.iconst (v := 1) d_Mo_law_77 (by decide) ?_
          refine V.goto (tgt := 82) d_Mo_law_78 (by decide) ?_
          exact V.pick [0] rfl (J67_82 _ _ (Option.some.inj h).symm)
        replace h := h1
        refine V.if_eq (tgt := 81) d_Mo_law_67 (by decide) (fun hc67 => ?_) (fun hc67 => ?_)
        · replace h := ite_t hc67 h
          exact V.pick [0] rfl (J67b_81 _ (Option.some.inj h).symm)
        · replace h := ite_f hc67 h
          refine V.aload_n d_Mo_law_70 rfl 0 rfl ?_
          obtain ⟨r71, σ71, h1, h⟩ := bnd2_e h
          refine V.vI (as := []) (st := []) (c_Mo_readsClause Z h1) k_Mo_readsClause lk_Mo_298 (by decide) rfl (by decide) ly_65 ok_Mo.1 rfl (Nat.le_of_ble_eq_true rfl) d_Mo_law_71 ?_
          refine V.if_eq (tgt := 81) d_Mo_law_74 (by decide) (fun hc74 => ?_) (fun hc74 => ?_)
          · replace h := ite_t hc74 h
            exact V.pick [0] rfl (J67b_81 _ (Option.some.inj h).symm)
          · replace h := ite_f hc74 h
            exact V.pick [0] rfl (J67b_77 _ (Option.some.inj h).symm)
def B_Mo_law_l110 (N : Nat) (rec : Int32 → Mem → Option (Mem)) (x3 : Int32) (σ : Mem) : Option (Mem) :=
  if (mI σ 65 16) ≤ x3 then
    (some σ)
  else
    (grd (inb x3 260) <|
    grd (inb x3 260) <|
    letv (sI σ 79 (x3.toNatClampNeg) (mI σ 73 (x3.toNatClampNeg))) fun σ129 =>
    letv (x3 + 1) fun v130 =>
    rec v130 σ129)
def L_Mo_law_l110 (N : Nat) : Nat → Int32 → Mem → Option (Mem)
  | 0, _, _ => none
  | k + 1, x3, σ => B_Mo_law_l110 N (L_Mo_law_l110 N k) x3 σ
set_option maxHeartbeats 4000000 in
set_option maxRecDepth 20000 in
theorem cL_Mo_law_l110 (Z : ZX) {Y : YX} {Q : State → Prop} {N : Nat} {Good : Mem → Prop} (hE : ∀ (σe : Mem), Good σe → V (mkB Z) Y m_Mo_law 8 Q 0 0 nC σe 136 [(0, rf Z 65)] []) : ∀ (k : Nat) (x3 : Int32) (σ : Mem) (res : Mem), L_Mo_law_l110 N k x3 σ = some res → Good res → V (mkB Z) Y m_Mo_law 8 Q 0 0 nC σ 110 [(0, rf Z 65), (3, .int x3)] [] := by
  intro k
  induction k with
  | zero => intro x3 σ res h; cases h
  | succ k ih =>
    intro x3 σ res h hg
    replace h : B_Mo_law_l110 N (L_Mo_law_l110 N k) x3 σ = some res := h
    unfold B_Mo_law_l110 at h
    refine V.iload_n d_Mo_law_110 rfl 1 rfl ?_
    refine V.aload_n d_Mo_law_111 rfl 0 rfl ?_
    refine V.getI ok_Mo fl_Mo_235 (by decide) (by decide) ly_65 rfl d_Mo_law_112 ?_
    refine V.icmp_ge (tgt := 136) d_Mo_law_115 (by decide) (fun hc115 => ?_) (fun hc115 => ?_)
    · replace h := ite_t hc115 h
      cases h
      exact V.pick [0] rfl (hE _ hg)
    · replace h := ite_f hc115 h
      refine V.aload_n d_Mo_law_118 rfl 0 rfl ?_
      refine V.getR (r := 79) ok_Mo fl_Mo_50 (by decide) (by decide) ly_65 rfl d_Mo_law_119 ?_
      refine V.iload_n d_Mo_law_122 rfl 1 rfl ?_
      refine V.aload_n d_Mo_law_123 rfl 0 rfl ?_
      refine V.getR (r := 73) ok_Mo fl_Mo_32 (by decide) (by decide) ly_65 rfl d_Mo_law_124 ?_
      refine V.iload_n d_Mo_law_127 rfl 1 rfl ?_
      obtain ⟨gq, h⟩ := grd_e h
      refine V.ra (by decide) ly_73 (inb_e gq) rfl d_Mo_law_128 ?_
      obtain ⟨gq, h⟩ := grd_e h
      obtain ⟨σ129, e_σ129, h⟩ := letv_e h
      refine V.wa (by decide) ly_79 (inb_e gq) rfl d_Mo_law_129 e_σ129 ?_
      obtain ⟨v130, e_v130, h⟩ := letv_e h
      refine V.iinc (v := v130) (lv' := [(3, .int v130), (0, rf Z 65)]) d_Mo_law_130 1 rfl (by rw [e_v130]; rfl) (by decide) rfl ?_
      refine V.goto (tgt := 110) d_Mo_law_133 (by decide) ?_
      exact V.pick [1, 0] rfl (ih _ _ _ h hg)
def B_Mo_law_l138 (N : Nat) (rec : Int32 → Mem → Option (Int32 × Mem)) (x3 : Int32) (σ : Mem) : Option (Int32 × Mem) :=
  if (mI σ 65 18) ≤ x3 then
    (some (mI σ 65 18, σ))
  else
    (grd (inb x3 16) <|
    grd (inb x3 16) <|
    letv (sI σ 80 (x3.toNatClampNeg) (mI σ 75 (x3.toNatClampNeg))) fun σ157 =>
    grd (inb x3 16) <|
    grd (inb x3 16) <|
    letv (sI σ157 81 (x3.toNatClampNeg) (mI σ157 76 (x3.toNatClampNeg))) fun σ169 =>
    grd (inb x3 16) <|
    grd (inb x3 16) <|
    letv (sI σ169 82 (x3.toNatClampNeg) (mI σ169 77 (x3.toNatClampNeg))) fun σ181 =>
    grd (inb x3 16) <|
    grd (inb x3 16) <|
    letv (sI σ181 83 (x3.toNatClampNeg) (mI σ181 78 (x3.toNatClampNeg))) fun σ193 =>
    letv (x3 + 1) fun v194 =>
    rec v194 σ193)
def L_Mo_law_l138 (N : Nat) : Nat → Int32 → Mem → Option (Int32 × Mem)
  | 0, _, _ => none
  | k + 1, x3, σ => B_Mo_law_l138 N (L_Mo_law_l138 N k) x3 σ
set_option maxHeartbeats 4000000 in
set_option maxRecDepth 20000 in
theorem cL_Mo_law_l138 (Z : ZX) {Y : YX} {post : Option Value → Mem → Prop} {N : Nat} {Good : Int32 × Mem → Prop} (hR : ∀ (v : Int32) (σr : Mem), Good (v, σr) → post (some (.int v)) σr) : ∀ (k : Nat) (x3 : Int32) (σ : Mem) (res : Int32 × Mem), L_Mo_law_l138 N k x3 σ = some res → Good res → V (mkB Z) Y m_Mo_law 8 (QP (mkB Z) Y nC 0 0 post) 0 0 nC σ 138 [(0, rf Z 65), (3, .int x3)] [] := by
  intro k
  induction k with
  | zero => intro x3 σ res h; cases h
  | succ k ih =>
    intro x3 σ res h hg
    replace h : B_Mo_law_l138 N (L_Mo_law_l138 N k) x3 σ = some res := h
    unfold B_Mo_law_l138 at h
    refine V.iload_n d_Mo_law_138 rfl 1 rfl ?_
    refine V.aload_n d_Mo_law_139 rfl 0 rfl ?_
    refine V.getI ok_Mo fl_Mo_292 (by decide) (by decide) ly_65 rfl d_Mo_law_140 ?_
    refine V.icmp_ge (tgt := 200) d_Mo_law_143 (by decide) (fun hc143 => ?_) (fun hc143 => ?_)
    · replace h := ite_t hc143 h
      refine V.aload_n d_Mo_law_200 rfl 0 rfl ?_
      refine V.getI ok_Mo fl_Mo_292 (by decide) (by decide) ly_65 rfl d_Mo_law_201 ?_
      cases h
      exact V.iret rfl d_Mo_law_204 (hR _ _ hg)
    · replace h := ite_f hc143 h
      refine V.aload_n d_Mo_law_146 rfl 0 rfl ?_
      refine V.getR (r := 80) ok_Mo fl_Mo_53 (by decide) (by decide) ly_65 rfl d_Mo_law_147 ?_
      refine V.iload_n d_Mo_law_150 rfl 1 rfl ?_
      refine V.aload_n d_Mo_law_151 rfl 0 rfl ?_
      refine V.getR (r := 75) ok_Mo fl_Mo_38 (by decide) (by decide) ly_65 rfl d_Mo_law_152 ?_
      refine V.iload_n d_Mo_law_155 rfl 1 rfl ?_
      obtain ⟨gq, h⟩ := grd_e h
      refine V.ra (by decide) ly_75 (inb_e gq) rfl d_Mo_law_156 ?_
      obtain ⟨gq, h⟩ := grd_e h
      obtain ⟨σ157, e_σ157, h⟩ := letv_e h
      refine V.wa (by decide) ly_80 (inb_e gq) rfl d_Mo_law_157 e_σ157 ?_
      refine V.aload_n d_Mo_law_158 rfl 0 rfl ?_
      refine V.getR (r := 81) ok_Mo fl_Mo_56 (by decide) (by decide) ly_65 rfl d_Mo_law_159 ?_
      refine V.iload_n d_Mo_law_162 rfl 1 rfl ?_
      refine V.aload_n d_Mo_law_163 rfl 0 rfl ?_
      refine V.getR (r := 76) ok_Mo fl_Mo_41 (by decide) (by decide) ly_65 rfl d_Mo_law_164 ?_
      refine V.iload_n d_Mo_law_167 rfl 1 rfl ?_
      obtain ⟨gq, h⟩ := grd_e h
      refine V.ra (by decide) ly_76 (inb_e gq) rfl d_Mo_law_168 ?_
      obtain ⟨gq, h⟩ := grd_e h
      obtain ⟨σ169, e_σ169, h⟩ := letv_e h
      refine V.wa (by decide) ly_81 (inb_e gq) rfl d_Mo_law_169 e_σ169 ?_
      refine V.aload_n d_Mo_law_170 rfl 0 rfl ?_
      refine V.getR (r := 82) ok_Mo fl_Mo_59 (by decide) (by decide) ly_65 rfl d_Mo_law_171 ?_
      refine V.iload_n d_Mo_law_174 rfl 1 rfl ?_
      refine V.aload_n d_Mo_law_175 rfl 0 rfl ?_
      refine V.getR (r := 77) ok_Mo fl_Mo_44 (by decide) (by decide) ly_65 rfl d_Mo_law_176 ?_
      refine V.iload_n d_Mo_law_179 rfl 1 rfl ?_
      obtain ⟨gq, h⟩ := grd_e h
      refine V.ra (by decide) ly_77 (inb_e gq) rfl d_Mo_law_180 ?_
      obtain ⟨gq, h⟩ := grd_e h
      obtain ⟨σ181, e_σ181, h⟩ := letv_e h
      refine V.wa (by decide) ly_82 (inb_e gq) rfl d_Mo_law_181 e_σ181 ?_
      refine V.aload_n d_Mo_law_182 rfl 0 rfl ?_
      refine V.getR (r := 83) ok_Mo fl_Mo_62 (by decide) (by decide) ly_65 rfl d_Mo_law_183 ?_
      refine V.iload_n d_Mo_law_186 rfl 1 rfl ?_
      refine V.aload_n d_Mo_law_187 rfl 0 rfl ?_
      refine V.getR (r := 78) ok_Mo fl_Mo_47 (by decide) (by decide) ly_65 rfl d_Mo_law_188 ?_
      refine V.iload_n d_Mo_law_191 rfl 1 rfl ?_
      obtain ⟨gq, h⟩ := grd_e h
      refine V.ra (by decide) ly_78 (inb_e gq) rfl d_Mo_law_192 ?_
      obtain ⟨gq, h⟩ := grd_e h
      obtain ⟨σ193, e_σ193, h⟩ := letv_e h
      refine V.wa (by decide) ly_83 (inb_e gq) rfl d_Mo_law_193 e_σ193 ?_
      obtain ⟨v194, e_v194, h⟩ := letv_e h
      refine V.iinc (v := v194) (lv' := [(3, .int v194), (0, rf Z 65)]) d_Mo_law_194 1 rfl (by rw [e_v194]; rfl) (by decide) rfl ?_
      refine V.goto (tgt := 138) d_Mo_law_197 (by decide) ?_
      exact V.pick [1, 0] rfl (ih _ _ _ h hg)
def f_Mo_law (N : Nat) (σ : Mem) (a1 : Int32) : Option (Int32 × Mem) :=
  bnd1 (f_Mo_in a1 1 240) fun r5 =>
  if r5 = 0 then
    (some ((-1), σ))
  else
    (if a1 ≤ (mI σ 65 11) then
      (letv (sI σ 65 12 0) fun σ23 =>
      letv (sI σ23 65 13 a1) fun σ28 =>
      letv (sI σ28 65 16 0) fun σ33 =>
      letv (sI σ33 65 18 0) fun σ38 =>
      bnd2 (f_Mo_readsClause N σ38) fun r42 σ42 =>
      bnd1 (L_Mo_law_l46 N N r42 σ42) fun x46_ =>
      q2 x46_ fun z46_2 σ46_ =>
      letv (sI σ46_ 65 11 0) fun σ88 =>
      if z46_2 = 0 then
        (some (mI σ88 65 14, σ88))
      else
        (letv (sI σ88 65 20 (mI σ88 65 18)) fun σ105 =>
        bnd1 (L_Mo_law_l110 N N 0 σ105) fun σ110_ =>
        L_Mo_law_l138 N N 0 σ110_))
    else
      (some ((-1), σ)))
set_option maxHeartbeats 4000000 in
set_option maxRecDepth 20000 in
theorem c_Mo_law (Z : ZX) {N : Nat} {σ : Mem} {a1 : Int32} {r : Int32} {σ' : Mem} (h : f_Mo_law N σ a1 = some (r, σ')) : CI Z 8 m_Mo_law [rf Z 65, .int a1] σ r σ' := by
  refine Ct.of (by decide +kernel) (Nat.le_of_ble_eq_true rfl) (fun Y => ?_)
  show V (mkB Z) Y m_Mo_law 8 (QP (mkB Z) Y nC 0 0 (fun v t => v = some (.int r) ∧ t = σ')) 0 0 nC σ 0 [(0, rf Z 65), (1, .int a1)] []
  unfold f_Mo_law at h
  refine V.iload_n d_Mo_law_0 rfl 1 rfl ?_
  refine V.iconst (v := 1) d_Mo_law_1 (by decide) ?_
  refine V.sipush (v := 240) d_Mo_law_2 (by decide) ?_
  obtain ⟨r5, h1, h⟩ := bnd1_e h
  refine V.sI (as := [.int a1, .int 1, .int 240]) (st := []) (c_Mo_in Z h1) k_Mo_in lk_Mo_188 (by decide) rfl rfl (Nat.le_of_ble_eq_true rfl) d_Mo_law_5 ?_
  refine V.if_eq (tgt := 19) d_Mo_law_8 (by decide) (fun hc8 => ?_) (fun hc8 => ?_)
  · replace h := ite_t hc8 h
    refine V.iconst (v := (-1)) d_Mo_law_19 (by decide) ?_
    cases h
    exact V.iret rfl d_Mo_law_20 ⟨rfl, rfl⟩
  · replace h := ite_f hc8 h
    refine V.iload_n d_Mo_law_11 rfl 1 rfl ?_
    refine V.aload_n d_Mo_law_12 rfl 0 rfl ?_
    refine V.getI ok_Mo fl_Mo_205 (by decide) (by decide) ly_65 rfl d_Mo_law_13 ?_
    refine V.icmp_le (tgt := 21) d_Mo_law_16 (by decide) (fun hc16 => ?_) (fun hc16 => ?_)
    · replace h := ite_t hc16 h
      refine V.aload_n d_Mo_law_21 rfl 0 rfl ?_
      refine V.iconst (v := 0) d_Mo_law_22 (by decide) ?_
      obtain ⟨σ23, e_σ23, h⟩ := letv_e h
      refine V.putI ok_Mo fl_Mo_212 (by decide) (by decide) ly_65 rfl rfl rfl rfl d_Mo_law_23 (V.mem e_σ23 ?_)
      refine V.aload_n d_Mo_law_26 rfl 0 rfl ?_
      refine V.iload_n d_Mo_law_27 rfl 1 rfl ?_
      obtain ⟨σ28, e_σ28, h⟩ := letv_e h
      refine V.putI ok_Mo fl_Mo_215 (by decide) (by decide) ly_65 rfl rfl rfl rfl d_Mo_law_28 (V.mem e_σ28 ?_)
      refine V.aload_n d_Mo_law_31 rfl 0 rfl ?_
      refine V.iconst (v := 0) d_Mo_law_32 (by decide) ?_
      obtain ⟨σ33, e_σ33, h⟩ := letv_e h
      refine V.putI ok_Mo fl_Mo_235 (by decide) (by decide) ly_65 rfl rfl rfl rfl d_Mo_law_33 (V.mem e_σ33 ?_)
      refine V.aload_n d_Mo_law_36 rfl 0 rfl ?_
      refine V.iconst (v := 0) d_Mo_law_37 (by decide) ?_
      obtain ⟨σ38, e_σ38, h⟩ := letv_e h
      refine V.putI ok_Mo fl_Mo_292 (by decide) (by decide) ly_65 rfl rfl rfl rfl d_Mo_law_38 (V.mem e_σ38 ?_)
      refine V.aload_n d_Mo_law_41 rfl 0 rfl ?_
      obtain ⟨r42, σ42, h1, h⟩ := bnd2_e h
      refine V.vI (as := []) (st := []) (c_Mo_readsClause Z h1) k_Mo_readsClause lk_Mo_298 (by decide) rfl (by decide) ly_65 ok_Mo.1 rfl (Nat.le_of_ble_eq_true rfl) d_Mo_law_42 ?_
      refine V.istore_n (lv' := [(2, .int r42), (0, rf Z 65), (1, .int a1)]) d_Mo_law_45 rfl (by decide) rfl ?_
      obtain ⟨x46_, h1, h⟩ := bnd1_e h
      refine V.pick [1, 0] rfl (cL_Mo_law_l46 Z (Good := fun z => x46_ = z) (fun z46_2 σ46_ he => ?_) N _ _ _ h1 rfl)
      · rw [he] at h
        replace h := q2_e h
        refine V.aload_n d_Mo_law_86 rfl 0 rfl ?_
        refine V.iconst (v := 0) d_Mo_law_87 (by decide) ?_
        obtain ⟨σ88, e_σ88, h⟩ := letv_e h
        refine V.putI ok_Mo fl_Mo_205 (by decide) (by decide) ly_65 rfl rfl rfl rfl d_Mo_law_88 (V.mem e_σ88 ?_)
        refine V.iload_n d_Mo_law_91 rfl 1 rfl ?_
        refine V.if_ne (tgt := 100) d_Mo_law_92 (by decide) (fun hc92 => ?_) (fun hc92 => ?_)
        · replace h := ite_f hc92 h
          refine V.aload_n d_Mo_law_100 rfl 0 rfl ?_
          refine V.aload_n d_Mo_law_101 rfl 0 rfl ?_
          refine V.getI ok_Mo fl_Mo_292 (by decide) (by decide) ly_65 rfl d_Mo_law_102 ?_
          obtain ⟨σ105, e_σ105, h⟩ := letv_e h
          refine V.putI ok_Mo fl_Mo_304 (by decide) (by decide) ly_65 rfl rfl rfl rfl d_Mo_law_105 (V.mem e_σ105 ?_)
          refine V.iconst (v := 0) d_Mo_law_108 (by decide) ?_
          refine V.istore_n (lv' := [(3, .int 0), (0, rf Z 65), (2, .int z46_2)]) d_Mo_law_109 rfl (by decide) rfl ?_
          obtain ⟨x110_, h1, h⟩ := bnd1_e h
          refine V.pick [1, 0] rfl (cL_Mo_law_l110 Z (Good := fun z => x110_ = z) (fun σ110_ he => ?_) N _ _ _ h1 rfl)
          · rw [he] at h
            refine V.iconst (v := 0) d_Mo_law_136 (by decide) ?_
            refine V.istore_n (lv' := [(3, .int 0), (0, rf Z 65)]) d_Mo_law_137 rfl (by decide) rfl ?_
            refine V.pick [1, 0] rfl (cL_Mo_law_l138 Z (Good := fun z => z = _) (fun r138v r138m he => ?_) N _ _ _ h rfl)
            · cases he
              exact ⟨rfl, rfl⟩
        · replace h := ite_t hc92 h
          refine V.aload_n d_Mo_law_95 rfl 0 rfl ?_
          refine V.getI ok_Mo fl_Mo_222 (by decide) (by decide) ly_65 rfl d_Mo_law_96 ?_
          cases h
          exact V.iret rfl d_Mo_law_99 ⟨rfl, rfl⟩
    · replace h := ite_f hc16 h
      refine V.iconst (v := (-1)) d_Mo_law_19 (by decide) ?_
      cases h
      exact V.iret rfl d_Mo_law_20 ⟨rfl, rfl⟩
abbrev m_Mo_isIn : MI := (⟨"ShadeTownModel", "isIn", "(II)Z"⟩, prog_13_method_8_code, 2, (Option.some Jvm.ClassFile.FieldType.boolean))
theorem d_Mo_isIn_0 : decode prog_13_method_8_code 0 = .ok (.iload_n 0, 1) := by decide +kernel
theorem d_Mo_isIn_24 : decode prog_13_method_8_code 24 = .ok (.iconst 0, 1) := by decide +kernel
theorem d_Mo_isIn_25 : decode prog_13_method_8_code 25 = .ok (.ireturn, 1) := by decide +kernel
theorem d_Mo_isIn_4 : decode prog_13_method_8_code 4 = .ok (.iload_n 0, 1) := by decide +kernel
theorem d_Mo_isIn_5 : decode prog_13_method_8_code 5 = .ok (.bipush 12, 2) := by decide +kernel
theorem d_Mo_isIn_10 : decode prog_13_method_8_code 10 = .ok (.iload_n 1, 1) := by decide +kernel
theorem d_Mo_isIn_14 : decode prog_13_method_8_code 14 = .ok (.iload_n 1, 1) := by decide +kernel
theorem d_Mo_isIn_15 : decode prog_13_method_8_code 15 = .ok (.bipush 12, 2) := by decide +kernel
theorem d_Mo_isIn_20 : decode prog_13_method_8_code 20 = .ok (.iconst 1, 1) := by decide +kernel
theorem d_Mo_isIn_21 : decode prog_13_method_8_code 21 = .ok (.goto 4, 3) := by decide +kernel
theorem d_Mo_isIn_17 : decode prog_13_method_8_code 17 = .ok (.if_icmp .ge 7, 3) := by decide +kernel
theorem d_Mo_isIn_11 : decode prog_13_method_8_code 11 = .ok (.ifCond .lt 13, 3) := by decide +kernel
theorem d_Mo_isIn_7 : decode prog_13_method_8_code 7 = .ok (.if_icmp .ge 17, 3) := by decide +kernel
theorem d_Mo_isIn_1 : decode prog_13_method_8_code 1 = .ok (.ifCond .lt 23, 3) := by decide +kernel
def f_Mo_isIn (a0 : Int32) (a1 : Int32) : Option (Int32) :=
  if a0 < 0 then
    (some 0)
  else
    (if 12 ≤ a0 then
      (some 0)
    else
      (if a1 < 0 then
        (some 0)
      else
        (if 12 ≤ a1 then
          (some 0)
        else
          (some 1))))
set_option maxHeartbeats 4000000 in
set_option maxRecDepth 20000 in
theorem c_Mo_isIn (Z : ZX) {σ : Mem} {a0 : Int32} {a1 : Int32} {r : Int32} (h : f_Mo_isIn a0 a1 = some r) : CI Z 0 m_Mo_isIn [.int a0, .int a1] σ r σ := by
  refine Ct.of (by decide +kernel) (Nat.le_of_ble_eq_true rfl) (fun Y => ?_)
  show V (mkB Z) Y m_Mo_isIn 0 (QP (mkB Z) Y nC 0 0 (fun v t => v = some (.int r) ∧ t = σ)) 0 0 nC σ 0 [(0, .int a0), (1, .int a1)] []
  unfold f_Mo_isIn at h
  refine V.iload_n d_Mo_isIn_0 rfl 0 rfl ?_
  refine V.if_lt (tgt := 24) d_Mo_isIn_1 (by decide) (fun hc1 => ?_) (fun hc1 => ?_)
  · replace h := ite_t hc1 h
    refine V.iconst (v := 0) d_Mo_isIn_24 (by decide) ?_
    cases h
    exact V.zret rfl rfl d_Mo_isIn_25 ⟨rfl, rfl⟩
  · replace h := ite_f hc1 h
    refine V.iload_n d_Mo_isIn_4 rfl 0 rfl ?_
    refine V.bipush (v := 12) d_Mo_isIn_5 (by decide) ?_
    refine V.icmp_ge (tgt := 24) d_Mo_isIn_7 (by decide) (fun hc7 => ?_) (fun hc7 => ?_)
    · replace h := ite_t hc7 h
      refine V.iconst (v := 0) d_Mo_isIn_24 (by decide) ?_
      cases h
      exact V.zret rfl rfl d_Mo_isIn_25 ⟨rfl, rfl⟩
    · replace h := ite_f hc7 h
      refine V.iload_n d_Mo_isIn_10 rfl 1 rfl ?_
      refine V.if_lt (tgt := 24) d_Mo_isIn_11 (by decide) (fun hc11 => ?_) (fun hc11 => ?_)
      · replace h := ite_t hc11 h
        refine V.iconst (v := 0) d_Mo_isIn_24 (by decide) ?_
        cases h
        exact V.zret rfl rfl d_Mo_isIn_25 ⟨rfl, rfl⟩
      · replace h := ite_f hc11 h
        refine V.iload_n d_Mo_isIn_14 rfl 1 rfl ?_
        refine V.bipush (v := 12) d_Mo_isIn_15 (by decide) ?_
        refine V.icmp_ge (tgt := 24) d_Mo_isIn_17 (by decide) (fun hc17 => ?_) (fun hc17 => ?_)
        · replace h := ite_t hc17 h
          refine V.iconst (v := 0) d_Mo_isIn_24 (by decide) ?_
          cases h
          exact V.zret rfl rfl d_Mo_isIn_25 ⟨rfl, rfl⟩
        · replace h := ite_f hc17 h
          refine V.iconst (v := 1) d_Mo_isIn_20 (by decide) ?_
          refine V.goto (tgt := 25) d_Mo_isIn_21 (by decide) ?_
          cases h
          exact V.zret rfl rfl d_Mo_isIn_25 ⟨rfl, rfl⟩
abbrev m_Mo_has : MI := (⟨"ShadeTownModel", "has", "(II)Z"⟩, prog_13_method_6_code, 2, (Option.some Jvm.ClassFile.FieldType.boolean))
theorem d_Mo_has_0 : decode prog_13_method_6_code 0 = .ok (.iload_n 0, 1) := by decide +kernel
theorem d_Mo_has_1 : decode prog_13_method_6_code 1 = .ok (.iload_n 1, 1) := by decide +kernel
theorem d_Mo_has_2 : decode prog_13_method_6_code 2 = .ok (.ishr, 1) := by decide +kernel
theorem d_Mo_has_3 : decode prog_13_method_6_code 3 = .ok (.iconst 1, 1) := by decide +kernel
theorem d_Mo_has_4 : decode prog_13_method_6_code 4 = .ok (.iand, 1) := by decide +kernel
theorem d_Mo_has_5 : decode prog_13_method_6_code 5 = .ok (.iconst 1, 1) := by decide +kernel
theorem d_Mo_has_13 : decode prog_13_method_6_code 13 = .ok (.iconst 0, 1) := by decide +kernel
theorem d_Mo_has_14 : decode prog_13_method_6_code 14 = .ok (.ireturn, 1) := by decide +kernel
theorem d_Mo_has_9 : decode prog_13_method_6_code 9 = .ok (.iconst 1, 1) := by decide +kernel
theorem d_Mo_has_10 : decode prog_13_method_6_code 10 = .ok (.goto 4, 3) := by decide +kernel
theorem d_Mo_has_6 : decode prog_13_method_6_code 6 = .ok (.if_icmp .ne 7, 3) := by decide +kernel
def f_Mo_has (a0 : Int32) (a1 : Int32) : Option (Int32) :=
  if (a0 >>> (a1 &&& 31)) &&& 1 = 1 then
    (some 1)
  else
    (some 0)
set_option maxHeartbeats 4000000 in
set_option maxRecDepth 20000 in
theorem c_Mo_has (Z : ZX) {σ : Mem} {a0 : Int32} {a1 : Int32} {r : Int32} (h : f_Mo_has a0 a1 = some r) : CI Z 0 m_Mo_has [.int a0, .int a1] σ r σ := by
  refine Ct.of (by decide +kernel) (Nat.le_of_ble_eq_true rfl) (fun Y => ?_)
  show V (mkB Z) Y m_Mo_has 0 (QP (mkB Z) Y nC 0 0 (fun v t => v = some (.int r) ∧ t = σ)) 0 0 nC σ 0 [(0, .int a0), (1, .int a1)] []
  unfold f_Mo_has at h
  refine V.iload_n d_Mo_has_0 rfl 0 rfl ?_
  refine V.iload_n d_Mo_has_1 rfl 1 rfl ?_
  refine V.ishr d_Mo_has_2 ?_
  refine V.iconst (v := 1) d_Mo_has_3 (by decide) ?_
  refine V.iand d_Mo_has_4 ?_
  refine V.iconst (v := 1) d_Mo_has_5 (by decide) ?_
  refine V.icmp_ne (tgt := 13) d_Mo_has_6 (by decide) (fun hc6 => ?_) (fun hc6 => ?_)
  · replace h := ite_f hc6 h
    refine V.iconst (v := 0) d_Mo_has_13 (by decide) ?_
    cases h
    exact V.zret rfl rfl d_Mo_has_14 ⟨rfl, rfl⟩
  · replace h := ite_t hc6 h
    refine V.iconst (v := 1) d_Mo_has_9 (by decide) ?_
    refine V.goto (tgt := 14) d_Mo_has_10 (by decide) ?_
    cases h
    exact V.zret rfl rfl d_Mo_has_14 ⟨rfl, rfl⟩
abbrev m_Mo_houseOn : MI := (⟨"ShadeTownModel", "houseOn", "(I)I"⟩, prog_13_method_14_code, 3, (Option.some Jvm.ClassFile.FieldType.int))
theorem d_Mo_houseOn_0 : decode prog_13_method_14_code 0 = .ok (.iconst 0, 1) := by decide +kernel
theorem d_Mo_houseOn_1 : decode prog_13_method_14_code 1 = .ok (.istore_n 2, 1) := by decide +kernel
theorem d_Mo_houseOn_2 : decode prog_13_method_14_code 2 = .ok (.iload_n 2, 1) := by decide +kernel
theorem d_Mo_houseOn_3 : decode prog_13_method_14_code 3 = .ok (.aload_n 0, 1) := by decide +kernel
theorem fl_Mo_167 : FL "ShadeTownModel" 167 T_Mo 0 := atG 1332 (by decide +kernel) rfl
theorem d_Mo_houseOn_4 : decode prog_13_method_14_code 4 = .ok (.getfield 167, 3) := by decide +kernel
theorem d_Mo_houseOn_10 : decode prog_13_method_14_code 10 = .ok (.aload_n 0, 1) := by decide +kernel
theorem fl_Mo_174 : FL "ShadeTownModel" 174 T_Mo 1 := atG 1333 (by decide +kernel) rfl
theorem d_Mo_houseOn_11 : decode prog_13_method_14_code 11 = .ok (.getfield 174, 3) := by decide +kernel
theorem d_Mo_houseOn_14 : decode prog_13_method_14_code 14 = .ok (.iload_n 2, 1) := by decide +kernel
theorem d_Mo_houseOn_15 : decode prog_13_method_14_code 15 = .ok (.invokestatic 177, 3) := by decide +kernel
theorem k_Mo_has : MOk m_Mo_has 2 ∧ Cond.static m_Mo_has.1 ∈ tblG := ⟨⟨atG 1590 (by decide +kernel) rfl, atG 122 (by decide +kernel) rfl, ⟨by decide, by decide⟩, by decide +kernel, by decide⟩, atG 1589 (by decide +kernel) rfl⟩
theorem lk_Mo_177 : Cond.methodLink "ShadeTownModel" 177 ⟨"ShadeTownModel", "has", "(II)Z"⟩ ∈ tblG := atG 1588 (by decide +kernel) rfl
theorem d_Mo_houseOn_21 : decode prog_13_method_14_code 21 = .ok (.aload_n 0, 1) := by decide +kernel
theorem fl_Mo_7 : FL "ShadeTownModel" 7 T_Mo 4 := atG 1336 (by decide +kernel) rfl
theorem d_Mo_houseOn_22 : decode prog_13_method_14_code 22 = .ok (.getfield 7, 3) := by decide +kernel
theorem d_Mo_houseOn_25 : decode prog_13_method_14_code 25 = .ok (.iload_n 2, 1) := by decide +kernel
theorem d_Mo_houseOn_26 : decode prog_13_method_14_code 26 = .ok (.iaload, 1) := by decide +kernel
theorem d_Mo_houseOn_30 : decode prog_13_method_14_code 30 = .ok (.aload_n 0, 1) := by decide +kernel
theorem fl_Mo_13 : FL "ShadeTownModel" 13 T_Mo 5 := atG 1337 (by decide +kernel) rfl
theorem d_Mo_houseOn_31 : decode prog_13_method_14_code 31 = .ok (.getfield 13, 3) := by decide +kernel
theorem d_Mo_houseOn_34 : decode prog_13_method_14_code 34 = .ok (.iload_n 2, 1) := by decide +kernel
theorem d_Mo_houseOn_35 : decode prog_13_method_14_code 35 = .ok (.iaload, 1) := by decide +kernel
theorem d_Mo_houseOn_36 : decode prog_13_method_14_code 36 = .ok (.iload_n 1, 1) := by decide +kernel
theorem d_Mo_houseOn_37 : decode prog_13_method_14_code 37 = .ok (.if_icmp .ne 5, 3) := by decide +kernel
theorem d_Mo_houseOn_27 : decode prog_13_method_14_code 27 = .ok (.ifCond .ne 15, 3) := by decide +kernel
theorem d_Mo_houseOn_18 : decode prog_13_method_14_code 18 = .ok (.ifCond .eq 24, 3) := by decide +kernel
theorem d_Mo_houseOn_7 : decode prog_13_method_14_code 7 = .ok (.if_icmp .ge 41, 3) := by decide +kernel
theorem d_Mo_houseOn_48 : decode prog_13_method_14_code 48 = .ok (.iconst (-1), 1) := by decide +kernel
theorem d_Mo_houseOn_49 : decode prog_13_method_14_code 49 = .ok (.ireturn, 1) := by decide +kernel
theorem d_Mo_houseOn_42 : decode prog_13_method_14_code 42 = .ok (.iinc 2 1, 3) := by decide +kernel
theorem d_Mo_houseOn_45 : decode prog_13_method_14_code 45 = .ok (.goto (-43), 3) := by decide +kernel
theorem d_Mo_houseOn_40 : decode prog_13_method_14_code 40 = .ok (.iload_n 2, 1) := by decide +kernel
theorem d_Mo_houseOn_41 : decode prog_13_method_14_code 41 = .ok (.ireturn, 1) := by decide +kernel
def B_Mo_houseOn_l2 (N : Nat) (a1 : Int32) (σ : Mem) (rec : Int32 → Option (Int32)) (x2 : Int32) : Option (Int32) :=
  bnd1 ((
    if (mI σ 65 0) ≤ x2 then
      (some 0)
    else
      (bnd1 (f_Mo_has (mI σ 65 1) x2) fun r15 =>
      if r15 = 0 then
        (some 1)
      else
        (grd (inb x2 17) <|
        if (mI σ 66 (x2.toNatClampNeg)) = 0 then
          (grd (inb x2 17) <|
          if (mI σ 67 (x2.toNatClampNeg)) = a1 then
            (some 2)
          else
            (some 1))
        else
          (some 1)))) : Option (Nat)) fun t7b =>
  if t7b = 0 then
    (some (-1))
  else
  if t7b = 1 then
    (letv (x2 + 1) fun v42 =>
    rec v42)
  else
  (some x2)
def L_Mo_houseOn_l2 (N : Nat) (a1 : Int32) (σ : Mem) : Nat → Int32 → Option (Int32)
  | 0, _ => none
  | k + 1, x2 => B_Mo_houseOn_l2 N a1 σ (L_Mo_houseOn_l2 N a1 σ k) x2
set_option maxHeartbeats 4000000 in
set_option maxRecDepth 20000 in
theorem cL_Mo_houseOn_l2 (Z : ZX) {Y : YX} {post : Option Value → Mem → Prop} {N : Nat} {a1 : Int32} {σ : Mem} {Good : Int32 → Prop} (hR : ∀ (v : Int32), Good v → post (some (.int v)) σ) : ∀ (k : Nat) (x2 : Int32) (res : Int32), L_Mo_houseOn_l2 N a1 σ k x2 = some res → Good res → V (mkB Z) Y m_Mo_houseOn 1 (QP (mkB Z) Y nC 0 0 post) 0 0 nC σ 2 [(0, rf Z 65), (1, .int a1), (2, .int x2)] [] := by
  intro k
  induction k with
  | zero => intro x2 res h; cases h
  | succ k ih =>
    intro x2 res h hg
    replace h : B_Mo_houseOn_l2 N a1 σ (L_Mo_houseOn_l2 N a1 σ k) x2 = some res := h
    unfold B_Mo_houseOn_l2 at h
    refine V.iload_n d_Mo_houseOn_2 rfl 2 rfl ?_
    refine V.aload_n d_Mo_houseOn_3 rfl 0 rfl ?_
    refine V.getI ok_Mo fl_Mo_167 (by decide) (by decide) ly_65 rfl d_Mo_houseOn_4 ?_
    obtain ⟨s7b, h1, h⟩ := bnd1_e h
    have J7b_48 : s7b = 0 → V (mkB Z) Y m_Mo_houseOn 1 (QP (mkB Z) Y nC 0 0 post) 0 0 nC σ 48 [] [] := by
      intro he
      rw [he] at h
      replace h := ite_t rfl h
      refine V.iconst (v := (-1)) d_Mo_houseOn_48 (by decide) ?_
      cases h
      exact V.iret rfl d_Mo_houseOn_49 (hR _ hg)
    have J7b_42 : s7b = 1 → V (mkB Z) Y m_Mo_houseOn 1 (QP (mkB Z) Y nC 0 0 post) 0 0 nC σ 42 [(0, rf Z 65), (1, .int a1), (2, .int x2)] [] := by
      intro he
      rw [he] at h
      replace h := ite_f (by decide) h
      replace h := ite_t rfl h
      obtain ⟨v42, e_v42, h⟩ := letv_e h
      refine V.iinc (v := v42) (lv' := [(2, .int v42), (0, rf Z 65), (1, .int a1)]) d_Mo_houseOn_42 2 rfl (by rw [e_v42]; rfl) (by decide) rfl ?_
      refine V.goto (tgt := 2) d_Mo_houseOn_45 (by decide) ?_
      exact V.pick [1, 2, 0] rfl (ih _ _ h hg)
    have J7b_40 : s7b = 2 → V (mkB Z) Y m_Mo_houseOn 1 (QP (mkB Z) Y nC 0 0 post) 0 0 nC σ 40 [(2, .int x2)] [] := by
      intro he
      rw [he] at h
      replace h := ite_f (by decide) h
      replace h := ite_f (by decide) h
      refine V.iload_n d_Mo_houseOn_40 rfl 0 rfl ?_
      cases h
      exact V.iret rfl d_Mo_houseOn_41 (hR _ hg)
    replace h := h1
    refine V.icmp_ge (tgt := 48) d_Mo_houseOn_7 (by decide) (fun hc7 => ?_) (fun hc7 => ?_)
    · replace h := ite_t hc7 h
      exact V.pick [] rfl (J7b_48 (Option.some.inj h).symm)
    · replace h := ite_f hc7 h
      refine V.aload_n d_Mo_houseOn_10 rfl 0 rfl ?_
      refine V.getI ok_Mo fl_Mo_174 (by decide) (by decide) ly_65 rfl d_Mo_houseOn_11 ?_
      refine V.iload_n d_Mo_houseOn_14 rfl 2 rfl ?_
      obtain ⟨r15, h1, h⟩ := bnd1_e h
      refine V.sI (as := [.int (mI σ 65 1), .int x2]) (st := []) (c_Mo_has Z h1) k_Mo_has lk_Mo_177 (by decide) rfl rfl (Nat.le_of_ble_eq_true rfl) d_Mo_houseOn_15 ?_
      refine V.if_eq (tgt := 42) d_Mo_houseOn_18 (by decide) (fun hc18 => ?_) (fun hc18 => ?_)
      · replace h := ite_t hc18 h
        exact V.pick [0, 1, 2] rfl (J7b_42 (Option.some.inj h).symm)
      · replace h := ite_f hc18 h
        refine V.aload_n d_Mo_houseOn_21 rfl 0 rfl ?_
        refine V.getR (r := 66) ok_Mo fl_Mo_7 (by decide) (by decide) ly_65 rfl d_Mo_houseOn_22 ?_
        refine V.iload_n d_Mo_houseOn_25 rfl 2 rfl ?_
        obtain ⟨gq, h⟩ := grd_e h
        refine V.ra (by decide) ly_66 (inb_e gq) rfl d_Mo_houseOn_26 ?_
        refine V.if_ne (tgt := 42) d_Mo_houseOn_27 (by decide) (fun hc27 => ?_) (fun hc27 => ?_)
        · replace h := ite_f hc27 h
          exact V.pick [0, 1, 2] rfl (J7b_42 (Option.some.inj h).symm)
        · replace h := ite_t hc27 h
          refine V.aload_n d_Mo_houseOn_30 rfl 0 rfl ?_
          refine V.getR (r := 67) ok_Mo fl_Mo_13 (by decide) (by decide) ly_65 rfl d_Mo_houseOn_31 ?_
          refine V.iload_n d_Mo_houseOn_34 rfl 2 rfl ?_
          obtain ⟨gq, h⟩ := grd_e h
          refine V.ra (by decide) ly_67 (inb_e gq) rfl d_Mo_houseOn_35 ?_
          refine V.iload_n d_Mo_houseOn_36 rfl 1 rfl ?_
          refine V.icmp_ne (tgt := 42) d_Mo_houseOn_37 (by decide) (fun hc37 => ?_) (fun hc37 => ?_)
          · replace h := ite_f hc37 h
            exact V.pick [0, 1, 2] rfl (J7b_42 (Option.some.inj h).symm)
          · replace h := ite_t hc37 h
            exact V.pick [2] rfl (J7b_40 (Option.some.inj h).symm)
def f_Mo_houseOn (N : Nat) (σ : Mem) (a1 : Int32) : Option (Int32) :=
  L_Mo_houseOn_l2 N a1 σ N 0
set_option maxHeartbeats 4000000 in
set_option maxRecDepth 20000 in
theorem c_Mo_houseOn (Z : ZX) {N : Nat} {σ : Mem} {a1 : Int32} {r : Int32} (h : f_Mo_houseOn N σ a1 = some r) : CI Z 1 m_Mo_houseOn [rf Z 65, .int a1] σ r σ := by
  refine Ct.of (by decide +kernel) (Nat.le_of_ble_eq_true rfl) (fun Y => ?_)
  show V (mkB Z) Y m_Mo_houseOn 1 (QP (mkB Z) Y nC 0 0 (fun v t => v = some (.int r) ∧ t = σ)) 0 0 nC σ 0 [(0, rf Z 65), (1, .int a1)] []
  unfold f_Mo_houseOn at h
  refine V.iconst (v := 0) d_Mo_houseOn_0 (by decide) ?_
  refine V.istore_n (lv' := [(2, .int 0), (0, rf Z 65), (1, .int a1)]) d_Mo_houseOn_1 rfl (by decide) rfl ?_
  refine V.pick [1, 2, 0] rfl (cL_Mo_houseOn_l2 Z (Good := fun z => z = _) (fun r2v he => ?_) N _ _ h rfl)
  · cases he
    exact ⟨rfl, rfl⟩
abbrev m_Mo_isFree : MI := (⟨"ShadeTownModel", "isFree", "(I)Z"⟩, prog_13_method_15_code, 2, (Option.some Jvm.ClassFile.FieldType.boolean))
theorem d_Mo_isFree_0 : decode prog_13_method_15_code 0 = .ok (.aload_n 0, 1) := by decide +kernel
theorem d_Mo_isFree_1 : decode prog_13_method_15_code 1 = .ok (.iload_n 1, 1) := by decide +kernel
theorem d_Mo_isFree_2 : decode prog_13_method_15_code 2 = .ok (.invokevirtual 181, 3) := by decide +kernel
theorem k_Mo_houseOn : MOk m_Mo_houseOn 1 ∧ IOk m_Mo_houseOn := ⟨⟨atG 1587 (by decide +kernel) rfl, atG 122 (by decide +kernel) rfl, ⟨by decide, by decide⟩, by decide +kernel, by decide⟩, atG 1586 (by decide +kernel) rfl, atG 43 (by decide +kernel) rfl⟩
theorem lk_Mo_181 : Cond.methodLink "ShadeTownModel" 181 ⟨"ShadeTownModel", "houseOn", "(I)I"⟩ ∈ tblG := atG 1584 (by decide +kernel) rfl
theorem d_Mo_isFree_5 : decode prog_13_method_15_code 5 = .ok (.iconst (-1), 1) := by decide +kernel
theorem d_Mo_isFree_13 : decode prog_13_method_15_code 13 = .ok (.iconst 0, 1) := by decide +kernel
theorem d_Mo_isFree_14 : decode prog_13_method_15_code 14 = .ok (.ireturn, 1) := by decide +kernel
theorem d_Mo_isFree_9 : decode prog_13_method_15_code 9 = .ok (.iconst 1, 1) := by decide +kernel
theorem d_Mo_isFree_10 : decode prog_13_method_15_code 10 = .ok (.goto 4, 3) := by decide +kernel
theorem d_Mo_isFree_6 : decode prog_13_method_15_code 6 = .ok (.if_icmp .ne 7, 3) := by decide +kernel
def f_Mo_isFree (N : Nat) (σ : Mem) (a1 : Int32) : Option (Int32) :=
  bnd1 (f_Mo_houseOn N σ a1) fun r2 =>
  if r2 = (-1) then
    (some 1)
  else
    (some 0)
set_option maxHeartbeats 4000000 in
set_option maxRecDepth 20000 in
theorem c_Mo_isFree (Z : ZX) {N : Nat} {σ : Mem} {a1 : Int32} {r : Int32} (h : f_Mo_isFree N σ a1 = some r) : CI Z 2 m_Mo_isFree [rf Z 65, .int a1] σ r σ := by
  refine Ct.of (by decide +kernel) (Nat.le_of_ble_eq_true rfl) (fun Y => ?_)
  show V (mkB Z) Y m_Mo_isFree 2 (QP (mkB Z) Y nC 0 0 (fun v t => v = some (.int r) ∧ t = σ)) 0 0 nC σ 0 [(0, rf Z 65), (1, .int a1)] []
  unfold f_Mo_isFree at h
  refine V.aload_n d_Mo_isFree_0 rfl 0 rfl ?_
  refine V.iload_n d_Mo_isFree_1 rfl 1 rfl ?_
  obtain ⟨r2, h1, h⟩ := bnd1_e h
  refine V.vI (as := [.int a1]) (st := []) (c_Mo_houseOn Z h1) k_Mo_houseOn lk_Mo_181 (by decide) rfl (by decide) ly_65 ok_Mo.1 rfl (Nat.le_of_ble_eq_true rfl) d_Mo_isFree_2 ?_
  refine V.iconst (v := (-1)) d_Mo_isFree_5 (by decide) ?_
  refine V.icmp_ne (tgt := 13) d_Mo_isFree_6 (by decide) (fun hc6 => ?_) (fun hc6 => ?_)
  · replace h := ite_f hc6 h
    refine V.iconst (v := 0) d_Mo_isFree_13 (by decide) ?_
    cases h
    exact V.zret rfl rfl d_Mo_isFree_14 ⟨rfl, rfl⟩
  · replace h := ite_t hc6 h
    refine V.iconst (v := 1) d_Mo_isFree_9 (by decide) ?_
    refine V.goto (tgt := 14) d_Mo_isFree_10 (by decide) ?_
    cases h
    exact V.zret rfl rfl d_Mo_isFree_14 ⟨rfl, rfl⟩
abbrev m_Mo_puts : MI := (⟨"ShadeTownModel", "puts", "(IIIII)I"⟩, prog_13_method_16_code, 6, (Option.some Jvm.ClassFile.FieldType.int))
theorem d_Mo_puts_0 : decode prog_13_method_16_code 0 = .ok (.aload_n 0, 1) := by decide +kernel
theorem d_Mo_puts_1 : decode prog_13_method_16_code 1 = .ok (.getfield 7, 3) := by decide +kernel
theorem d_Mo_puts_4 : decode prog_13_method_16_code 4 = .ok (.aload_n 0, 1) := by decide +kernel
theorem d_Mo_puts_5 : decode prog_13_method_16_code 5 = .ok (.getfield 167, 3) := by decide +kernel
theorem d_Mo_puts_8 : decode prog_13_method_16_code 8 = .ok (.iload_n 1, 1) := by decide +kernel
theorem d_Mo_puts_9 : decode prog_13_method_16_code 9 = .ok (.iastore, 1) := by decide +kernel
theorem d_Mo_puts_10 : decode prog_13_method_16_code 10 = .ok (.aload_n 0, 1) := by decide +kernel
theorem d_Mo_puts_11 : decode prog_13_method_16_code 11 = .ok (.getfield 13, 3) := by decide +kernel
theorem d_Mo_puts_14 : decode prog_13_method_16_code 14 = .ok (.aload_n 0, 1) := by decide +kernel
theorem d_Mo_puts_15 : decode prog_13_method_16_code 15 = .ok (.getfield 167, 3) := by decide +kernel
theorem d_Mo_puts_18 : decode prog_13_method_16_code 18 = .ok (.iload_n 2, 1) := by decide +kernel
theorem d_Mo_puts_19 : decode prog_13_method_16_code 19 = .ok (.iastore, 1) := by decide +kernel
theorem d_Mo_puts_20 : decode prog_13_method_16_code 20 = .ok (.aload_n 0, 1) := by decide +kernel
theorem fl_Mo_16 : FL "ShadeTownModel" 16 T_Mo 6 := atG 1338 (by decide +kernel) rfl
theorem d_Mo_puts_21 : decode prog_13_method_16_code 21 = .ok (.getfield 16, 3) := by decide +kernel
theorem d_Mo_puts_24 : decode prog_13_method_16_code 24 = .ok (.aload_n 0, 1) := by decide +kernel
theorem d_Mo_puts_25 : decode prog_13_method_16_code 25 = .ok (.getfield 167, 3) := by decide +kernel
theorem d_Mo_puts_28 : decode prog_13_method_16_code 28 = .ok (.iload_n 3, 1) := by decide +kernel
theorem d_Mo_puts_29 : decode prog_13_method_16_code 29 = .ok (.iastore, 1) := by decide +kernel
theorem d_Mo_puts_30 : decode prog_13_method_16_code 30 = .ok (.aload_n 0, 1) := by decide +kernel
theorem fl_Mo_19 : FL "ShadeTownModel" 19 T_Mo 7 := atG 1339 (by decide +kernel) rfl
theorem d_Mo_puts_31 : decode prog_13_method_16_code 31 = .ok (.getfield 19, 3) := by decide +kernel
theorem d_Mo_puts_34 : decode prog_13_method_16_code 34 = .ok (.aload_n 0, 1) := by decide +kernel
theorem d_Mo_puts_35 : decode prog_13_method_16_code 35 = .ok (.getfield 167, 3) := by decide +kernel
theorem d_Mo_puts_38 : decode prog_13_method_16_code 38 = .ok (.iload 4, 2) := by decide +kernel
theorem d_Mo_puts_40 : decode prog_13_method_16_code 40 = .ok (.iastore, 1) := by decide +kernel
theorem d_Mo_puts_41 : decode prog_13_method_16_code 41 = .ok (.aload_n 0, 1) := by decide +kernel
theorem fl_Mo_22 : FL "ShadeTownModel" 22 T_Mo 8 := atG 1340 (by decide +kernel) rfl
theorem d_Mo_puts_42 : decode prog_13_method_16_code 42 = .ok (.getfield 22, 3) := by decide +kernel
theorem d_Mo_puts_45 : decode prog_13_method_16_code 45 = .ok (.aload_n 0, 1) := by decide +kernel
theorem d_Mo_puts_46 : decode prog_13_method_16_code 46 = .ok (.getfield 167, 3) := by decide +kernel
theorem d_Mo_puts_49 : decode prog_13_method_16_code 49 = .ok (.iload 5, 2) := by decide +kernel
theorem d_Mo_puts_51 : decode prog_13_method_16_code 51 = .ok (.iastore, 1) := by decide +kernel
theorem d_Mo_puts_52 : decode prog_13_method_16_code 52 = .ok (.aload_n 0, 1) := by decide +kernel
theorem d_Mo_puts_53 : decode prog_13_method_16_code 53 = .ok (.aload_n 0, 1) := by decide +kernel
theorem d_Mo_puts_54 : decode prog_13_method_16_code 54 = .ok (.getfield 174, 3) := by decide +kernel
theorem d_Mo_puts_57 : decode prog_13_method_16_code 57 = .ok (.iconst 1, 1) := by decide +kernel
theorem d_Mo_puts_58 : decode prog_13_method_16_code 58 = .ok (.aload_n 0, 1) := by decide +kernel
theorem d_Mo_puts_59 : decode prog_13_method_16_code 59 = .ok (.getfield 167, 3) := by decide +kernel
theorem d_Mo_puts_62 : decode prog_13_method_16_code 62 = .ok (.ishl, 1) := by decide +kernel
theorem d_Mo_puts_63 : decode prog_13_method_16_code 63 = .ok (.ior, 1) := by decide +kernel
theorem d_Mo_puts_64 : decode prog_13_method_16_code 64 = .ok (.putfield 174, 3) := by decide +kernel
theorem d_Mo_puts_67 : decode prog_13_method_16_code 67 = .ok (.aload_n 0, 1) := by decide +kernel
theorem d_Mo_puts_68 : decode prog_13_method_16_code 68 = .ok (.aload_n 0, 1) := by decide +kernel
theorem d_Mo_puts_69 : decode prog_13_method_16_code 69 = .ok (.getfield 167, 3) := by decide +kernel
theorem d_Mo_puts_72 : decode prog_13_method_16_code 72 = .ok (.iconst 1, 1) := by decide +kernel
theorem d_Mo_puts_73 : decode prog_13_method_16_code 73 = .ok (.iadd, 1) := by decide +kernel
theorem d_Mo_puts_74 : decode prog_13_method_16_code 74 = .ok (.putfield 167, 3) := by decide +kernel
theorem d_Mo_puts_77 : decode prog_13_method_16_code 77 = .ok (.aload_n 0, 1) := by decide +kernel
theorem d_Mo_puts_78 : decode prog_13_method_16_code 78 = .ok (.getfield 167, 3) := by decide +kernel
theorem d_Mo_puts_81 : decode prog_13_method_16_code 81 = .ok (.iconst 1, 1) := by decide +kernel
theorem d_Mo_puts_82 : decode prog_13_method_16_code 82 = .ok (.isub, 1) := by decide +kernel
theorem d_Mo_puts_83 : decode prog_13_method_16_code 83 = .ok (.ireturn, 1) := by decide +kernel
def f_Mo_puts (σ : Mem) (a1 : Int32) (a2 : Int32) (a3 : Int32) (a4 : Int32) (a5 : Int32) : Option (Int32 × Mem) :=
  grd (inb (mI σ 65 0) 17) <|
  letv (sI σ 66 ((mI σ 65 0).toNatClampNeg) a1) fun σ9 =>
  grd (inb (mI σ9 65 0) 17) <|
  letv (sI σ9 67 ((mI σ9 65 0).toNatClampNeg) a2) fun σ19 =>
  grd (inb (mI σ19 65 0) 17) <|
  letv (sI σ19 68 ((mI σ19 65 0).toNatClampNeg) a3) fun σ29 =>
  grd (inb (mI σ29 65 0) 17) <|
  letv (sI σ29 69 ((mI σ29 65 0).toNatClampNeg) a4) fun σ40 =>
  grd (inb (mI σ40 65 0) 17) <|
  letv (sI σ40 70 ((mI σ40 65 0).toNatClampNeg) a5) fun σ51 =>
  letv (sI σ51 65 1 ((mI σ51 65 1) ||| (1 <<< ((mI σ51 65 0) &&& 31)))) fun σ64 =>
  letv (sI σ64 65 0 ((mI σ64 65 0) + 1)) fun σ74 =>
  some ((mI σ74 65 0) - 1, σ74)
set_option maxHeartbeats 4000000 in
set_option maxRecDepth 20000 in
theorem c_Mo_puts (Z : ZX) {σ : Mem} {a1 : Int32} {a2 : Int32} {a3 : Int32} {a4 : Int32} {a5 : Int32} {r : Int32} {σ' : Mem} (h : f_Mo_puts σ a1 a2 a3 a4 a5 = some (r, σ')) : CI Z 0 m_Mo_puts [rf Z 65, .int a1, .int a2, .int a3, .int a4, .int a5] σ r σ' := by
  refine Ct.of (by decide +kernel) (Nat.le_of_ble_eq_true rfl) (fun Y => ?_)
  show V (mkB Z) Y m_Mo_puts 0 (QP (mkB Z) Y nC 0 0 (fun v t => v = some (.int r) ∧ t = σ')) 0 0 nC σ 0 [(0, rf Z 65), (1, .int a1), (2, .int a2), (3, .int a3), (4, .int a4), (5, .int a5)] []
  unfold f_Mo_puts at h
  refine V.aload_n d_Mo_puts_0 rfl 0 rfl ?_
  refine V.getR (r := 66) ok_Mo fl_Mo_7 (by decide) (by decide) ly_65 rfl d_Mo_puts_1 ?_
  refine V.aload_n d_Mo_puts_4 rfl 0 rfl ?_
  refine V.getI ok_Mo fl_Mo_167 (by decide) (by decide) ly_65 rfl d_Mo_puts_5 ?_
  refine V.iload_n d_Mo_puts_8 rfl 1 rfl ?_
  obtain ⟨gq, h⟩ := grd_e h
  obtain ⟨σ9, e_σ9, h⟩ := letv_e h
  refine V.wa (by decide) ly_66 (inb_e gq) rfl d_Mo_puts_9 e_σ9 ?_
  refine V.aload_n d_Mo_puts_10 rfl 0 rfl ?_
  refine V.getR (r := 67) ok_Mo fl_Mo_13 (by decide) (by decide) ly_65 rfl d_Mo_puts_11 ?_
  refine V.aload_n d_Mo_puts_14 rfl 0 rfl ?_
  refine V.getI ok_Mo fl_Mo_167 (by decide) (by decide) ly_65 rfl d_Mo_puts_15 ?_
  refine V.iload_n d_Mo_puts_18 rfl 2 rfl ?_
  obtain ⟨gq, h⟩ := grd_e h
  obtain ⟨σ19, e_σ19, h⟩ := letv_e h
  refine V.wa (by decide) ly_67 (inb_e gq) rfl d_Mo_puts_19 e_σ19 ?_
  refine V.aload_n d_Mo_puts_20 rfl 0 rfl ?_
  refine V.getR (r := 68) ok_Mo fl_Mo_16 (by decide) (by decide) ly_65 rfl d_Mo_puts_21 ?_
  refine V.aload_n d_Mo_puts_24 rfl 0 rfl ?_
  refine V.getI ok_Mo fl_Mo_167 (by decide) (by decide) ly_65 rfl d_Mo_puts_25 ?_
  refine V.iload_n d_Mo_puts_28 rfl 3 rfl ?_
  obtain ⟨gq, h⟩ := grd_e h
  obtain ⟨σ29, e_σ29, h⟩ := letv_e h
  refine V.wa (by decide) ly_68 (inb_e gq) rfl d_Mo_puts_29 e_σ29 ?_
  refine V.aload_n d_Mo_puts_30 rfl 0 rfl ?_
  refine V.getR (r := 69) ok_Mo fl_Mo_19 (by decide) (by decide) ly_65 rfl d_Mo_puts_31 ?_
  refine V.aload_n d_Mo_puts_34 rfl 0 rfl ?_
  refine V.getI ok_Mo fl_Mo_167 (by decide) (by decide) ly_65 rfl d_Mo_puts_35 ?_
  refine V.iload d_Mo_puts_38 4 rfl ?_
  obtain ⟨gq, h⟩ := grd_e h
  obtain ⟨σ40, e_σ40, h⟩ := letv_e h
  refine V.wa (by decide) ly_69 (inb_e gq) rfl d_Mo_puts_40 e_σ40 ?_
  refine V.aload_n d_Mo_puts_41 rfl 0 rfl ?_
  refine V.getR (r := 70) ok_Mo fl_Mo_22 (by decide) (by decide) ly_65 rfl d_Mo_puts_42 ?_
  refine V.aload_n d_Mo_puts_45 rfl 0 rfl ?_
  refine V.getI ok_Mo fl_Mo_167 (by decide) (by decide) ly_65 rfl d_Mo_puts_46 ?_
  refine V.iload d_Mo_puts_49 5 rfl ?_
  obtain ⟨gq, h⟩ := grd_e h
  obtain ⟨σ51, e_σ51, h⟩ := letv_e h
  refine V.wa (by decide) ly_70 (inb_e gq) rfl d_Mo_puts_51 e_σ51 ?_
  refine V.aload_n d_Mo_puts_52 rfl 0 rfl ?_
  refine V.aload_n d_Mo_puts_53 rfl 0 rfl ?_
  refine V.getI ok_Mo fl_Mo_174 (by decide) (by decide) ly_65 rfl d_Mo_puts_54 ?_
  refine V.iconst (v := 1) d_Mo_puts_57 (by decide) ?_
  refine V.aload_n d_Mo_puts_58 rfl 0 rfl ?_
  refine V.getI ok_Mo fl_Mo_167 (by decide) (by decide) ly_65 rfl d_Mo_puts_59 ?_
  refine V.ishl d_Mo_puts_62 ?_
  refine V.ior d_Mo_puts_63 ?_
  obtain ⟨σ64, e_σ64, h⟩ := letv_e h
  refine V.putI ok_Mo fl_Mo_174 (by decide) (by decide) ly_65 rfl rfl rfl rfl d_Mo_puts_64 (V.mem e_σ64 ?_)
  refine V.aload_n d_Mo_puts_67 rfl 0 rfl ?_
  refine V.aload_n d_Mo_puts_68 rfl 0 rfl ?_
  refine V.getI ok_Mo fl_Mo_167 (by decide) (by decide) ly_65 rfl d_Mo_puts_69 ?_
  refine V.iconst (v := 1) d_Mo_puts_72 (by decide) ?_
  refine V.iadd d_Mo_puts_73 ?_
  obtain ⟨σ74, e_σ74, h⟩ := letv_e h
  refine V.putI ok_Mo fl_Mo_167 (by decide) (by decide) ly_65 rfl rfl rfl rfl d_Mo_puts_74 (V.mem e_σ74 ?_)
  refine V.aload_n d_Mo_puts_77 rfl 0 rfl ?_
  refine V.getI ok_Mo fl_Mo_167 (by decide) (by decide) ly_65 rfl d_Mo_puts_78 ?_
  refine V.iconst (v := 1) d_Mo_puts_81 (by decide) ?_
  refine V.isub d_Mo_puts_82 ?_
  cases h
  exact V.iret rfl d_Mo_puts_83 ⟨rfl, rfl⟩
abbrev m_Mo_caster : MI := (⟨"ShadeTownModel", "caster", "(IIIII)I"⟩, prog_13_method_17_code, 7, (Option.some Jvm.ClassFile.FieldType.int))
theorem d_Mo_caster_0 : decode prog_13_method_17_code 0 = .ok (.iload_n 1, 1) := by decide +kernel
theorem d_Mo_caster_4 : decode prog_13_method_17_code 4 = .ok (.iload_n 1, 1) := by decide +kernel
theorem d_Mo_caster_5 : decode prog_13_method_17_code 5 = .ok (.iconst 1, 1) := by decide +kernel
theorem d_Mo_caster_9 : decode prog_13_method_17_code 9 = .ok (.iload_n 1, 1) := by decide +kernel
theorem d_Mo_caster_10 : decode prog_13_method_17_code 10 = .ok (.iconst 3, 1) := by decide +kernel
theorem d_Mo_caster_11 : decode prog_13_method_17_code 11 = .ok (.if_icmp .ne 41, 3) := by decide +kernel
theorem d_Mo_caster_6 : decode prog_13_method_17_code 6 = .ok (.if_icmp .eq 8, 3) := by decide +kernel
theorem d_Mo_caster_1 : decode prog_13_method_17_code 1 = .ok (.ifCond .eq 13, 3) := by decide +kernel
theorem d_Mo_caster_14 : decode prog_13_method_17_code 14 = .ok (.iload_n 2, 1) := by decide +kernel
theorem d_Mo_caster_15 : decode prog_13_method_17_code 15 = .ok (.iload_n 3, 1) := by decide +kernel
theorem d_Mo_caster_16 : decode prog_13_method_17_code 16 = .ok (.invokestatic 185, 3) := by decide +kernel
theorem k_Mo_isIn : MOk m_Mo_isIn 2 ∧ Cond.static m_Mo_isIn.1 ∈ tblG := ⟨⟨atG 1576 (by decide +kernel) rfl, atG 122 (by decide +kernel) rfl, ⟨by decide, by decide⟩, by decide +kernel, by decide⟩, atG 1575 (by decide +kernel) rfl⟩
theorem lk_Mo_185 : Cond.methodLink "ShadeTownModel" 185 ⟨"ShadeTownModel", "isIn", "(II)Z"⟩ ∈ tblG := atG 1574 (by decide +kernel) rfl
theorem d_Mo_caster_22 : decode prog_13_method_17_code 22 = .ok (.iload 4, 2) := by decide +kernel
theorem d_Mo_caster_24 : decode prog_13_method_17_code 24 = .ok (.iconst 1, 1) := by decide +kernel
theorem d_Mo_caster_25 : decode prog_13_method_17_code 25 = .ok (.bipush 99, 2) := by decide +kernel
theorem d_Mo_caster_27 : decode prog_13_method_17_code 27 = .ok (.invokestatic 188, 3) := by decide +kernel
theorem d_Mo_caster_33 : decode prog_13_method_17_code 33 = .ok (.iload 5, 2) := by decide +kernel
theorem d_Mo_caster_35 : decode prog_13_method_17_code 35 = .ok (.iconst 0, 1) := by decide +kernel
theorem d_Mo_caster_36 : decode prog_13_method_17_code 36 = .ok (.iconst 5, 1) := by decide +kernel
theorem d_Mo_caster_37 : decode prog_13_method_17_code 37 = .ok (.invokestatic 188, 3) := by decide +kernel
theorem d_Mo_caster_43 : decode prog_13_method_17_code 43 = .ok (.aload_n 0, 1) := by decide +kernel
theorem d_Mo_caster_44 : decode prog_13_method_17_code 44 = .ok (.getfield 167, 3) := by decide +kernel
theorem d_Mo_caster_47 : decode prog_13_method_17_code 47 = .ok (.bipush 16, 2) := by decide +kernel
theorem d_Mo_caster_54 : decode prog_13_method_17_code 54 = .ok (.bipush 12, 2) := by decide +kernel
theorem d_Mo_caster_56 : decode prog_13_method_17_code 56 = .ok (.iload_n 3, 1) := by decide +kernel
theorem d_Mo_caster_57 : decode prog_13_method_17_code 57 = .ok (.imul, 1) := by decide +kernel
theorem d_Mo_caster_58 : decode prog_13_method_17_code 58 = .ok (.iload_n 2, 1) := by decide +kernel
theorem d_Mo_caster_59 : decode prog_13_method_17_code 59 = .ok (.iadd, 1) := by decide +kernel
theorem d_Mo_caster_60 : decode prog_13_method_17_code 60 = .ok (.istore 6, 2) := by decide +kernel
theorem d_Mo_caster_62 : decode prog_13_method_17_code 62 = .ok (.iload_n 1, 1) := by decide +kernel
theorem d_Mo_caster_66 : decode prog_13_method_17_code 66 = .ok (.aload_n 0, 1) := by decide +kernel
theorem d_Mo_caster_67 : decode prog_13_method_17_code 67 = .ok (.iload 6, 2) := by decide +kernel
theorem d_Mo_caster_69 : decode prog_13_method_17_code 69 = .ok (.invokevirtual 192, 3) := by decide +kernel
theorem k_Mo_isFree : MOk m_Mo_isFree 1 ∧ IOk m_Mo_isFree := ⟨⟨atG 1583 (by decide +kernel) rfl, atG 122 (by decide +kernel) rfl, ⟨by decide, by decide⟩, by decide +kernel, by decide⟩, atG 1582 (by decide +kernel) rfl, atG 42 (by decide +kernel) rfl⟩
theorem lk_Mo_192 : Cond.methodLink "ShadeTownModel" 192 ⟨"ShadeTownModel", "isFree", "(I)Z"⟩ ∈ tblG := atG 1580 (by decide +kernel) rfl
theorem d_Mo_caster_72 : decode prog_13_method_17_code 72 = .ok (.ifCond .ne 6, 3) := by decide +kernel
theorem d_Mo_caster_63 : decode prog_13_method_17_code 63 = .ok (.ifCond .ne 15, 3) := by decide +kernel
theorem d_Mo_caster_49 : decode prog_13_method_17_code 49 = .ok (.if_icmp .ne 5, 3) := by decide +kernel
theorem d_Mo_caster_40 : decode prog_13_method_17_code 40 = .ok (.ifCond .eq 12, 3) := by decide +kernel
theorem d_Mo_caster_30 : decode prog_13_method_17_code 30 = .ok (.ifCond .eq 22, 3) := by decide +kernel
theorem d_Mo_caster_19 : decode prog_13_method_17_code 19 = .ok (.ifCond .eq 33, 3) := by decide +kernel
theorem d_Mo_caster_52 : decode prog_13_method_17_code 52 = .ok (.iconst (-1), 1) := by decide +kernel
theorem d_Mo_caster_53 : decode prog_13_method_17_code 53 = .ok (.ireturn, 1) := by decide +kernel
theorem d_Mo_caster_78 : decode prog_13_method_17_code 78 = .ok (.aload_n 0, 1) := by decide +kernel
theorem d_Mo_caster_79 : decode prog_13_method_17_code 79 = .ok (.iload_n 1, 1) := by decide +kernel
theorem d_Mo_caster_80 : decode prog_13_method_17_code 80 = .ok (.iload 6, 2) := by decide +kernel
theorem d_Mo_caster_82 : decode prog_13_method_17_code 82 = .ok (.iload 4, 2) := by decide +kernel
theorem d_Mo_caster_84 : decode prog_13_method_17_code 84 = .ok (.iconst 0, 1) := by decide +kernel
theorem d_Mo_caster_85 : decode prog_13_method_17_code 85 = .ok (.iload 5, 2) := by decide +kernel
theorem d_Mo_caster_87 : decode prog_13_method_17_code 87 = .ok (.invokevirtual 195, 3) := by decide +kernel
theorem k_Mo_puts : MOk m_Mo_puts 5 ∧ IOk m_Mo_puts := ⟨⟨atG 1594 (by decide +kernel) rfl, atG 122 (by decide +kernel) rfl, ⟨by decide, by decide⟩, by decide +kernel, by decide⟩, atG 1593 (by decide +kernel) rfl, atG 44 (by decide +kernel) rfl⟩
theorem lk_Mo_195 : Cond.methodLink "ShadeTownModel" 195 ⟨"ShadeTownModel", "puts", "(IIIII)I"⟩ ∈ tblG := atG 1591 (by decide +kernel) rfl
theorem d_Mo_caster_90 : decode prog_13_method_17_code 90 = .ok (.ireturn, 1) := by decide +kernel
theorem d_Mo_caster_75 : decode prog_13_method_17_code 75 = .ok (.bipush (-2), 2) := by decide +kernel
theorem d_Mo_caster_77 : decode prog_13_method_17_code 77 = .ok (.ireturn, 1) := by decide +kernel
def f_Mo_caster (N : Nat) (σ : Mem) (a1 : Int32) (a2 : Int32) (a3 : Int32) (a4 : Int32) (a5 : Int32) : Option (Int32 × Mem) :=
  bnd1 ((
    if a1 = 0 then
      (some 0)
    else
      (if a1 = 1 then
        (some 0)
      else
        (if a1 = 3 then
          (some 0)
        else
          (some 1)))) : Option (Nat)) fun t1b =>
  if t1b = 0 then
    (bnd1 (f_Mo_isIn a2 a3) fun r16 =>
    bnd1 ((
      if r16 = 0 then
        (some (0, 0))
      else
        (bnd1 (f_Mo_in a4 1 99) fun r27 =>
        if r27 = 0 then
          (some (0, 0))
        else
          (bnd1 (f_Mo_in a5 0 5) fun r37 =>
          if r37 = 0 then
            (some (0, 0))
          else
            (if (mI σ 65 0) = 16 then
              (some (0, 0))
            else
              (letv ((12 * a3) + a2) fun v60 =>
              if a1 = 0 then
                (bnd1 (f_Mo_isFree N σ v60) fun r69 =>
                if r69 = 0 then
                  (some (2, v60))
                else
                  (some (1, v60)))
              else
                (some (1, v60))))))) : Option (Nat × Int32)) fun s19b =>
    q2 s19b fun t19b y19b_6 =>
    if t19b = 0 then
      (some ((-1), σ))
    else
    if t19b = 1 then
      (bnd2 (f_Mo_puts σ a1 y19b_6 a4 0 a5) fun r87 σ87 =>
      some (r87, σ87))
    else
    (some ((-2), σ)))
  else
  (some ((-1), σ))
set_option maxHeartbeats 4000000 in
set_option maxRecDepth 20000 in
theorem c_Mo_caster (Z : ZX) {N : Nat} {σ : Mem} {a1 : Int32} {a2 : Int32} {a3 : Int32} {a4 : Int32} {a5 : Int32} {r : Int32} {σ' : Mem} (h : f_Mo_caster N σ a1 a2 a3 a4 a5 = some (r, σ')) : CI Z 3 m_Mo_caster [rf Z 65, .int a1, .int a2, .int a3, .int a4, .int a5] σ r σ' := by
  refine Ct.of (by decide +kernel) (Nat.le_of_ble_eq_true rfl) (fun Y => ?_)
  show V (mkB Z) Y m_Mo_caster 3 (QP (mkB Z) Y nC 0 0 (fun v t => v = some (.int r) ∧ t = σ')) 0 0 nC σ 0 [(0, rf Z 65), (1, .int a1), (2, .int a2), (3, .int a3), (4, .int a4), (5, .int a5)] []
  unfold f_Mo_caster at h
  refine V.iload_n d_Mo_caster_0 rfl 1 rfl ?_
  obtain ⟨s1b, h1, h⟩ := bnd1_e h
  have J1b_14 : s1b = 0 → V (mkB Z) Y m_Mo_caster 3 (QP (mkB Z) Y nC 0 0 (fun v t => v = some (.int r) ∧ t = σ')) 0 0 nC σ 14 [(0, rf Z 65), (1, .int a1), (2, .int a2), (3, .int a3), (4, .int a4), (5, .int a5)] [] := by
    intro he
    rw [he] at h
    replace h := ite_t rfl h
    refine V.iload_n d_Mo_caster_14 rfl 2 rfl ?_
    refine V.iload_n d_Mo_caster_15 rfl 3 rfl ?_
    obtain ⟨r16, h1, h⟩ := bnd1_e h
    refine V.sI (as := [.int a2, .int a3]) (st := []) (c_Mo_isIn Z h1) k_Mo_isIn lk_Mo_185 (by decide) rfl rfl (Nat.le_of_ble_eq_true rfl) d_Mo_caster_16 ?_
    obtain ⟨s19b, h1, h⟩ := bnd1_e h
    have J19b_52 : ∀ (y19b_6 : Int32), s19b = (0, y19b_6) → V (mkB Z) Y m_Mo_caster 3 (QP (mkB Z) Y nC 0 0 (fun v t => v = some (.int r) ∧ t = σ')) 0 0 nC σ 52 [] [] := by
      intro y19b_6 he
      rw [he] at h
      replace h := q2_e h
      replace h := ite_t rfl h
      refine V.iconst (v := (-1)) d_Mo_caster_52 (by decide) ?_
      cases h
      exact V.iret rfl d_Mo_caster_53 ⟨rfl, rfl⟩
    have J19b_78 : ∀ (y19b_6 : Int32), s19b = (1, y19b_6) → V (mkB Z) Y m_Mo_caster 3 (QP (mkB Z) Y nC 0 0 (fun v t => v = some (.int r) ∧ t = σ')) 0 0 nC σ 78 [(0, rf Z 65), (1, .int a1), (4, .int a4), (5, .int a5), (6, .int y19b_6)] [] := by
      intro y19b_6 he
      rw [he] at h
      replace h := q2_e h
      replace h := ite_f (by decide) h
      replace h := ite_t rfl h
      refine V.aload_n d_Mo_caster_78 rfl 0 rfl ?_
      refine V.iload_n d_Mo_caster_79 rfl 1 rfl ?_
      refine V.iload d_Mo_caster_80 4 rfl ?_
      refine V.iload d_Mo_caster_82 2 rfl ?_
      refine V.iconst (v := 0) d_Mo_caster_84 (by decide) ?_
      refine V.iload d_Mo_caster_85 3 rfl ?_
      obtain ⟨r87, σ87, h1, h⟩ := bnd2_e h
      refine V.vI (as := [.int a1, .int y19b_6, .int a4, .int 0, .int a5]) (st := []) (c_Mo_puts Z h1) k_Mo_puts lk_Mo_195 (by decide) rfl (by decide) ly_65 ok_Mo.1 rfl (Nat.le_of_ble_eq_true rfl) d_Mo_caster_87 ?_
      cases h
      exact V.iret rfl d_Mo_caster_90 ⟨rfl, rfl⟩
    have J19b_75 : ∀ (y19b_6 : Int32), s19b = (2, y19b_6) → V (mkB Z) Y m_Mo_caster 3 (QP (mkB Z) Y nC 0 0 (fun v t => v = some (.int r) ∧ t = σ')) 0 0 nC σ 75 [] [] := by
      intro y19b_6 he
      rw [he] at h
      replace h := q2_e h
      replace h := ite_f (by decide) h
      replace h := ite_f (by decide) h
      refine V.bipush (v := (-2)) d_Mo_caster_75 (by decide) ?_
      cases h
      exact V.iret rfl d_Mo_caster_77 ⟨rfl, rfl⟩
    replace h := h1
    refine V.if_eq (tgt := 52) d_Mo_caster_19 (by decide) (fun hc19 => ?_) (fun hc19 => ?_)
    · replace h := ite_t hc19 h
      exact V.pick [] rfl (J19b_52 _ (Option.some.inj h).symm)
    · replace h := ite_f hc19 h
      refine V.iload d_Mo_caster_22 4 rfl ?_
      refine V.iconst (v := 1) d_Mo_caster_24 (by decide) ?_
      refine V.bipush (v := 99) d_Mo_caster_25 (by decide) ?_
      obtain ⟨r27, h1, h⟩ := bnd1_e h
      refine V.sI (as := [.int a4, .int 1, .int 99]) (st := []) (c_Mo_in Z h1) k_Mo_in lk_Mo_188 (by decide) rfl rfl (Nat.le_of_ble_eq_true rfl) d_Mo_caster_27 ?_
      refine V.if_eq (tgt := 52) d_Mo_caster_30 (by decide) (fun hc30 => ?_) (fun hc30 => ?_)
      · replace h := ite_t hc30 h
        exact V.pick [] rfl (J19b_52 _ (Option.some.inj h).symm)
      · replace h := ite_f hc30 h
        refine V.iload d_Mo_caster_33 5 rfl ?_
        refine V.iconst (v := 0) d_Mo_caster_35 (by decide) ?_
        refine V.iconst (v := 5) d_Mo_caster_36 (by decide) ?_
        obtain ⟨r37, h1, h⟩ := bnd1_e h
        refine V.sI (as := [.int a5, .int 0, .int 5]) (st := []) (c_Mo_in Z h1) k_Mo_in lk_Mo_188 (by decide) rfl rfl (Nat.le_of_ble_eq_true rfl) d_Mo_caster_37 ?_
        refine V.if_eq (tgt := 52) d_Mo_caster_40 (by decide) (fun hc40 => ?_) (fun hc40 => ?_)
        · replace h := ite_t hc40 h
          exact V.pick [] rfl (J19b_52 _ (Option.some.inj h).symm)
        · replace h := ite_f hc40 h
          refine V.aload_n d_Mo_caster_43 rfl 0 rfl ?_
          refine V.getI ok_Mo fl_Mo_167 (by decide) (by decide) ly_65 rfl d_Mo_caster_44 ?_
          refine V.bipush (v := 16) d_Mo_caster_47 (by decide) ?_
          refine V.icmp_ne (tgt := 54) d_Mo_caster_49 (by decide) (fun hc49 => ?_) (fun hc49 => ?_)
          · replace h := ite_f hc49 h
            refine V.bipush (v := 12) d_Mo_caster_54 (by decide) ?_
            refine V.iload_n d_Mo_caster_56 rfl 3 rfl ?_
            refine V.imul d_Mo_caster_57 ?_
            refine V.iload_n d_Mo_caster_58 rfl 2 rfl ?_
            refine V.iadd d_Mo_caster_59 ?_
            obtain ⟨v60, e_v60, h⟩ := letv_e h
            refine V.topI e_v60 ?_
            refine V.istore (lv' := [(6, .int v60), (0, rf Z 65), (1, .int a1), (2, .int a2), (3, .int a3), (4, .int a4), (5, .int a5)]) d_Mo_caster_60 (by decide) rfl ?_
            refine V.iload_n d_Mo_caster_62 rfl 2 rfl ?_
            refine V.if_ne (tgt := 78) d_Mo_caster_63 (by decide) (fun hc63 => ?_) (fun hc63 => ?_)
            · replace h := ite_f hc63 h
              exact V.pick [1, 2, 5, 6, 0] rfl (J19b_78 _ (Option.some.inj h).symm)
            · replace h := ite_t hc63 h
              refine V.aload_n d_Mo_caster_66 rfl 1 rfl ?_
              refine V.iload d_Mo_caster_67 0 rfl ?_
              obtain ⟨r69, h1, h⟩ := bnd1_e h
              refine V.vI (as := [.int v60]) (st := []) (c_Mo_isFree Z h1) k_Mo_isFree lk_Mo_192 (by decide) rfl (by decide) ly_65 ok_Mo.1 rfl (Nat.le_of_ble_eq_true rfl) d_Mo_caster_69 ?_
              refine V.if_ne (tgt := 78) d_Mo_caster_72 (by decide) (fun hc72 => ?_) (fun hc72 => ?_)
              · replace h := ite_f hc72 h
                exact V.pick [1, 2, 5, 6, 0] rfl (J19b_78 _ (Option.some.inj h).symm)
              · replace h := ite_t hc72 h
                exact V.pick [] rfl (J19b_75 _ (Option.some.inj h).symm)
          · replace h := ite_t hc49 h
            exact V.pick [] rfl (J19b_52 _ (Option.some.inj h).symm)
  have J1b_52 : s1b = 1 → V (mkB Z) Y m_Mo_caster 3 (QP (mkB Z) Y nC 0 0 (fun v t => v = some (.int r) ∧ t = σ')) 0 0 nC σ 52 [] [] := by
    intro he
    rw [he] at h
    replace h := ite_f (by decide) h
    refine V.iconst (v := (-1)) d_Mo_caster_52 (by decide) ?_
    cases h
    exact V.iret rfl d_Mo_caster_53 ⟨rfl, rfl⟩
  replace h := h1
  refine V.if_eq (tgt := 14) d_Mo_caster_1 (by decide) (fun hc1 => ?_) (fun hc1 => ?_)
  · replace h := ite_t hc1 h
    exact V.pick [0, 1, 2, 3, 4, 5] rfl (J1b_14 (Option.some.inj h).symm)
  · replace h := ite_f hc1 h
    refine V.iload_n d_Mo_caster_4 rfl 1 rfl ?_
    refine V.iconst (v := 1) d_Mo_caster_5 (by decide) ?_
    refine V.icmp_eq (tgt := 14) d_Mo_caster_6 (by decide) (fun hc6 => ?_) (fun hc6 => ?_)
    · replace h := ite_t hc6 h
      exact V.pick [0, 1, 2, 3, 4, 5] rfl (J1b_14 (Option.some.inj h).symm)
    · replace h := ite_f hc6 h
      refine V.iload_n d_Mo_caster_9 rfl 1 rfl ?_
      refine V.iconst (v := 3) d_Mo_caster_10 (by decide) ?_
      refine V.icmp_ne (tgt := 52) d_Mo_caster_11 (by decide) (fun hc11 => ?_) (fun hc11 => ?_)
      · replace h := ite_f hc11 h
        exact V.pick [] rfl (J1b_52 (Option.some.inj h).symm)
      · replace h := ite_t hc11 h
        exact V.pick [0, 1, 2, 3, 4, 5] rfl (J1b_14 (Option.some.inj h).symm)
abbrev m_Mo_awning : MI := (⟨"ShadeTownModel", "awning", "(IIIII)I"⟩, prog_13_method_18_code, 6, (Option.some Jvm.ClassFile.FieldType.int))
theorem d_Mo_awning_0 : decode prog_13_method_18_code 0 = .ok (.iload_n 1, 1) := by decide +kernel
theorem d_Mo_awning_1 : decode prog_13_method_18_code 1 = .ok (.iload_n 2, 1) := by decide +kernel
theorem d_Mo_awning_2 : decode prog_13_method_18_code 2 = .ok (.invokestatic 185, 3) := by decide +kernel
theorem d_Mo_awning_46 : decode prog_13_method_18_code 46 = .ok (.iconst (-1), 1) := by decide +kernel
theorem d_Mo_awning_47 : decode prog_13_method_18_code 47 = .ok (.ireturn, 1) := by decide +kernel
theorem d_Mo_awning_8 : decode prog_13_method_18_code 8 = .ok (.iload_n 3, 1) := by decide +kernel
theorem d_Mo_awning_9 : decode prog_13_method_18_code 9 = .ok (.iconst 1, 1) := by decide +kernel
theorem d_Mo_awning_10 : decode prog_13_method_18_code 10 = .ok (.iconst 3, 1) := by decide +kernel
theorem d_Mo_awning_11 : decode prog_13_method_18_code 11 = .ok (.invokestatic 188, 3) := by decide +kernel
theorem d_Mo_awning_17 : decode prog_13_method_18_code 17 = .ok (.iload 4, 2) := by decide +kernel
theorem d_Mo_awning_19 : decode prog_13_method_18_code 19 = .ok (.iconst 0, 1) := by decide +kernel
theorem d_Mo_awning_20 : decode prog_13_method_18_code 20 = .ok (.iconst 3, 1) := by decide +kernel
theorem d_Mo_awning_21 : decode prog_13_method_18_code 21 = .ok (.invokestatic 188, 3) := by decide +kernel
theorem d_Mo_awning_27 : decode prog_13_method_18_code 27 = .ok (.iload 5, 2) := by decide +kernel
theorem d_Mo_awning_29 : decode prog_13_method_18_code 29 = .ok (.iconst 0, 1) := by decide +kernel
theorem d_Mo_awning_30 : decode prog_13_method_18_code 30 = .ok (.iconst 5, 1) := by decide +kernel
theorem d_Mo_awning_31 : decode prog_13_method_18_code 31 = .ok (.invokestatic 188, 3) := by decide +kernel
theorem d_Mo_awning_37 : decode prog_13_method_18_code 37 = .ok (.aload_n 0, 1) := by decide +kernel
theorem d_Mo_awning_38 : decode prog_13_method_18_code 38 = .ok (.getfield 167, 3) := by decide +kernel
theorem d_Mo_awning_41 : decode prog_13_method_18_code 41 = .ok (.bipush 16, 2) := by decide +kernel
theorem d_Mo_awning_48 : decode prog_13_method_18_code 48 = .ok (.aload_n 0, 1) := by decide +kernel
theorem d_Mo_awning_49 : decode prog_13_method_18_code 49 = .ok (.iconst 2, 1) := by decide +kernel
theorem d_Mo_awning_50 : decode prog_13_method_18_code 50 = .ok (.bipush 12, 2) := by decide +kernel
theorem d_Mo_awning_52 : decode prog_13_method_18_code 52 = .ok (.iload_n 2, 1) := by decide +kernel
theorem d_Mo_awning_53 : decode prog_13_method_18_code 53 = .ok (.imul, 1) := by decide +kernel
theorem d_Mo_awning_54 : decode prog_13_method_18_code 54 = .ok (.iload_n 1, 1) := by decide +kernel
theorem d_Mo_awning_55 : decode prog_13_method_18_code 55 = .ok (.iadd, 1) := by decide +kernel
theorem d_Mo_awning_56 : decode prog_13_method_18_code 56 = .ok (.iload_n 3, 1) := by decide +kernel
theorem d_Mo_awning_57 : decode prog_13_method_18_code 57 = .ok (.iload 4, 2) := by decide +kernel
theorem d_Mo_awning_59 : decode prog_13_method_18_code 59 = .ok (.iload 5, 2) := by decide +kernel
theorem d_Mo_awning_61 : decode prog_13_method_18_code 61 = .ok (.invokevirtual 195, 3) := by decide +kernel
theorem d_Mo_awning_64 : decode prog_13_method_18_code 64 = .ok (.ireturn, 1) := by decide +kernel
theorem d_Mo_awning_43 : decode prog_13_method_18_code 43 = .ok (.if_icmp .ne 5, 3) := by decide +kernel
theorem d_Mo_awning_34 : decode prog_13_method_18_code 34 = .ok (.ifCond .eq 12, 3) := by decide +kernel
theorem d_Mo_awning_24 : decode prog_13_method_18_code 24 = .ok (.ifCond .eq 22, 3) := by decide +kernel
theorem d_Mo_awning_14 : decode prog_13_method_18_code 14 = .ok (.ifCond .eq 32, 3) := by decide +kernel
theorem d_Mo_awning_5 : decode prog_13_method_18_code 5 = .ok (.ifCond .eq 41, 3) := by decide +kernel
def f_Mo_awning (σ : Mem) (a1 : Int32) (a2 : Int32) (a3 : Int32) (a4 : Int32) (a5 : Int32) : Option (Int32 × Mem) :=
  bnd1 (f_Mo_isIn a1 a2) fun r2 =>
  if r2 = 0 then
    (some ((-1), σ))
  else
    (bnd1 (f_Mo_in a3 1 3) fun r11 =>
    if r11 = 0 then
      (some ((-1), σ))
    else
      (bnd1 (f_Mo_in a4 0 3) fun r21 =>
      if r21 = 0 then
        (some ((-1), σ))
      else
        (bnd1 (f_Mo_in a5 0 5) fun r31 =>
        if r31 = 0 then
          (some ((-1), σ))
        else
          (if (mI σ 65 0) = 16 then
            (some ((-1), σ))
          else
            (bnd2 (f_Mo_puts σ 2 ((12 * a2) + a1) a3 a4 a5) fun r61 σ61 =>
            some (r61, σ61))))))
set_option maxHeartbeats 4000000 in
set_option maxRecDepth 20000 in
theorem c_Mo_awning (Z : ZX) {σ : Mem} {a1 : Int32} {a2 : Int32} {a3 : Int32} {a4 : Int32} {a5 : Int32} {r : Int32} {σ' : Mem} (h : f_Mo_awning σ a1 a2 a3 a4 a5 = some (r, σ')) : CI Z 1 m_Mo_awning [rf Z 65, .int a1, .int a2, .int a3, .int a4, .int a5] σ r σ' := by
  refine Ct.of (by decide +kernel) (Nat.le_of_ble_eq_true rfl) (fun Y => ?_)
  show V (mkB Z) Y m_Mo_awning 1 (QP (mkB Z) Y nC 0 0 (fun v t => v = some (.int r) ∧ t = σ')) 0 0 nC σ 0 [(0, rf Z 65), (1, .int a1), (2, .int a2), (3, .int a3), (4, .int a4), (5, .int a5)] []
  unfold f_Mo_awning at h
  refine V.iload_n d_Mo_awning_0 rfl 1 rfl ?_
  refine V.iload_n d_Mo_awning_1 rfl 2 rfl ?_
  obtain ⟨r2, h1, h⟩ := bnd1_e h
  refine V.sI (as := [.int a1, .int a2]) (st := []) (c_Mo_isIn Z h1) k_Mo_isIn lk_Mo_185 (by decide) rfl rfl (Nat.le_of_ble_eq_true rfl) d_Mo_awning_2 ?_
  refine V.if_eq (tgt := 46) d_Mo_awning_5 (by decide) (fun hc5 => ?_) (fun hc5 => ?_)
  · replace h := ite_t hc5 h
    refine V.iconst (v := (-1)) d_Mo_awning_46 (by decide) ?_
    cases h
    exact V.iret rfl d_Mo_awning_47 ⟨rfl, rfl⟩
  · replace h := ite_f hc5 h
    refine V.iload_n d_Mo_awning_8 rfl 3 rfl ?_
    refine V.iconst (v := 1) d_Mo_awning_9 (by decide) ?_
    refine V.iconst (v := 3) d_Mo_awning_10 (by decide) ?_
    obtain ⟨r11, h1, h⟩ := bnd1_e h
    refine V.sI (as := [.int a3, .int 1, .int 3]) (st := []) (c_Mo_in Z h1) k_Mo_in lk_Mo_188 (by decide) rfl rfl (Nat.le_of_ble_eq_true rfl) d_Mo_awning_11 ?_
    refine V.if_eq (tgt := 46) d_Mo_awning_14 (by decide) (fun hc14 => ?_) (fun hc14 => ?_)
    · replace h := ite_t hc14 h
      refine V.iconst (v := (-1)) d_Mo_awning_46 (by decide) ?_
      cases h
      exact V.iret rfl d_Mo_awning_47 ⟨rfl, rfl⟩
    · replace h := ite_f hc14 h
      refine V.iload d_Mo_awning_17 4 rfl ?_
      refine V.iconst (v := 0) d_Mo_awning_19 (by decide) ?_
      refine V.iconst (v := 3) d_Mo_awning_20 (by decide) ?_
      obtain ⟨r21, h1, h⟩ := bnd1_e h
      refine V.sI (as := [.int a4, .int 0, .int 3]) (st := []) (c_Mo_in Z h1) k_Mo_in lk_Mo_188 (by decide) rfl rfl (Nat.le_of_ble_eq_true rfl) d_Mo_awning_21 ?_
      refine V.if_eq (tgt := 46) d_Mo_awning_24 (by decide) (fun hc24 => ?_) (fun hc24 => ?_)
      · replace h := ite_t hc24 h
        refine V.iconst (v := (-1)) d_Mo_awning_46 (by decide) ?_
        cases h
        exact V.iret rfl d_Mo_awning_47 ⟨rfl, rfl⟩
      · replace h := ite_f hc24 h
        refine V.iload d_Mo_awning_27 5 rfl ?_
        refine V.iconst (v := 0) d_Mo_awning_29 (by decide) ?_
        refine V.iconst (v := 5) d_Mo_awning_30 (by decide) ?_
        obtain ⟨r31, h1, h⟩ := bnd1_e h
        refine V.sI (as := [.int a5, .int 0, .int 5]) (st := []) (c_Mo_in Z h1) k_Mo_in lk_Mo_188 (by decide) rfl rfl (Nat.le_of_ble_eq_true rfl) d_Mo_awning_31 ?_
        refine V.if_eq (tgt := 46) d_Mo_awning_34 (by decide) (fun hc34 => ?_) (fun hc34 => ?_)
        · replace h := ite_t hc34 h
          refine V.iconst (v := (-1)) d_Mo_awning_46 (by decide) ?_
          cases h
          exact V.iret rfl d_Mo_awning_47 ⟨rfl, rfl⟩
        · replace h := ite_f hc34 h
          refine V.aload_n d_Mo_awning_37 rfl 0 rfl ?_
          refine V.getI ok_Mo fl_Mo_167 (by decide) (by decide) ly_65 rfl d_Mo_awning_38 ?_
          refine V.bipush (v := 16) d_Mo_awning_41 (by decide) ?_
          refine V.icmp_ne (tgt := 48) d_Mo_awning_43 (by decide) (fun hc43 => ?_) (fun hc43 => ?_)
          · replace h := ite_f hc43 h
            refine V.aload_n d_Mo_awning_48 rfl 0 rfl ?_
            refine V.iconst (v := 2) d_Mo_awning_49 (by decide) ?_
            refine V.bipush (v := 12) d_Mo_awning_50 (by decide) ?_
            refine V.iload_n d_Mo_awning_52 rfl 2 rfl ?_
            refine V.imul d_Mo_awning_53 ?_
            refine V.iload_n d_Mo_awning_54 rfl 1 rfl ?_
            refine V.iadd d_Mo_awning_55 ?_
            refine V.iload_n d_Mo_awning_56 rfl 3 rfl ?_
            refine V.iload d_Mo_awning_57 4 rfl ?_
            refine V.iload d_Mo_awning_59 5 rfl ?_
            obtain ⟨r61, σ61, h1, h⟩ := bnd2_e h
            refine V.vI (as := [.int 2, .int ((12 * a2) + a1), .int a3, .int a4, .int a5]) (st := []) (c_Mo_puts Z h1) k_Mo_puts lk_Mo_195 (by decide) rfl (by decide) ly_65 ok_Mo.1 rfl (Nat.le_of_ble_eq_true rfl) d_Mo_awning_61 ?_
            cases h
            exact V.iret rfl d_Mo_awning_64 ⟨rfl, rfl⟩
          · replace h := ite_t hc43 h
            refine V.iconst (v := (-1)) d_Mo_awning_46 (by decide) ?_
            cases h
            exact V.iret rfl d_Mo_awning_47 ⟨rfl, rfl⟩
abbrev m_Mo_isCaster : MI := (⟨"ShadeTownModel", "isCaster", "(I)Z"⟩, prog_13_method_12_code, 2, (Option.some Jvm.ClassFile.FieldType.boolean))
theorem d_Mo_isCaster_0 : decode prog_13_method_12_code 0 = .ok (.iload_n 1, 1) := by decide +kernel
theorem d_Mo_isCaster_16 : decode prog_13_method_12_code 16 = .ok (.iconst 0, 1) := by decide +kernel
theorem d_Mo_isCaster_17 : decode prog_13_method_12_code 17 = .ok (.ireturn, 1) := by decide +kernel
theorem d_Mo_isCaster_4 : decode prog_13_method_12_code 4 = .ok (.iload_n 1, 1) := by decide +kernel
theorem d_Mo_isCaster_5 : decode prog_13_method_12_code 5 = .ok (.aload_n 0, 1) := by decide +kernel
theorem d_Mo_isCaster_6 : decode prog_13_method_12_code 6 = .ok (.getfield 167, 3) := by decide +kernel
theorem d_Mo_isCaster_12 : decode prog_13_method_12_code 12 = .ok (.iconst 1, 1) := by decide +kernel
theorem d_Mo_isCaster_13 : decode prog_13_method_12_code 13 = .ok (.goto 4, 3) := by decide +kernel
theorem d_Mo_isCaster_9 : decode prog_13_method_12_code 9 = .ok (.if_icmp .ge 7, 3) := by decide +kernel
theorem d_Mo_isCaster_1 : decode prog_13_method_12_code 1 = .ok (.ifCond .lt 15, 3) := by decide +kernel
def f_Mo_isCaster (σ : Mem) (a1 : Int32) : Option (Int32) :=
  if a1 < 0 then
    (some 0)
  else
    (if (mI σ 65 0) ≤ a1 then
      (some 0)
    else
      (some 1))
set_option maxHeartbeats 4000000 in
set_option maxRecDepth 20000 in
theorem c_Mo_isCaster (Z : ZX) {σ : Mem} {a1 : Int32} {r : Int32} (h : f_Mo_isCaster σ a1 = some r) : CI Z 0 m_Mo_isCaster [rf Z 65, .int a1] σ r σ := by
  refine Ct.of (by decide +kernel) (Nat.le_of_ble_eq_true rfl) (fun Y => ?_)
  show V (mkB Z) Y m_Mo_isCaster 0 (QP (mkB Z) Y nC 0 0 (fun v t => v = some (.int r) ∧ t = σ)) 0 0 nC σ 0 [(0, rf Z 65), (1, .int a1)] []
  unfold f_Mo_isCaster at h
  refine V.iload_n d_Mo_isCaster_0 rfl 1 rfl ?_
  refine V.if_lt (tgt := 16) d_Mo_isCaster_1 (by decide) (fun hc1 => ?_) (fun hc1 => ?_)
  · replace h := ite_t hc1 h
    refine V.iconst (v := 0) d_Mo_isCaster_16 (by decide) ?_
    cases h
    exact V.zret rfl rfl d_Mo_isCaster_17 ⟨rfl, rfl⟩
  · replace h := ite_f hc1 h
    refine V.iload_n d_Mo_isCaster_4 rfl 1 rfl ?_
    refine V.aload_n d_Mo_isCaster_5 rfl 0 rfl ?_
    refine V.getI ok_Mo fl_Mo_167 (by decide) (by decide) ly_65 rfl d_Mo_isCaster_6 ?_
    refine V.icmp_ge (tgt := 16) d_Mo_isCaster_9 (by decide) (fun hc9 => ?_) (fun hc9 => ?_)
    · replace h := ite_t hc9 h
      refine V.iconst (v := 0) d_Mo_isCaster_16 (by decide) ?_
      cases h
      exact V.zret rfl rfl d_Mo_isCaster_17 ⟨rfl, rfl⟩
    · replace h := ite_f hc9 h
      refine V.iconst (v := 1) d_Mo_isCaster_12 (by decide) ?_
      refine V.goto (tgt := 17) d_Mo_isCaster_13 (by decide) ?_
      cases h
      exact V.zret rfl rfl d_Mo_isCaster_17 ⟨rfl, rfl⟩
abbrev m_Mo_stands : MI := (⟨"ShadeTownModel", "stands", "(I)Z"⟩, prog_13_method_13_code, 2, (Option.some Jvm.ClassFile.FieldType.boolean))
theorem d_Mo_stands_0 : decode prog_13_method_13_code 0 = .ok (.aload_n 0, 1) := by decide +kernel
theorem d_Mo_stands_1 : decode prog_13_method_13_code 1 = .ok (.iload_n 1, 1) := by decide +kernel
theorem d_Mo_stands_2 : decode prog_13_method_13_code 2 = .ok (.invokevirtual 170, 3) := by decide +kernel
theorem k_Mo_isCaster : MOk m_Mo_isCaster 1 ∧ IOk m_Mo_isCaster := ⟨⟨atG 1610 (by decide +kernel) rfl, atG 122 (by decide +kernel) rfl, ⟨by decide, by decide⟩, by decide +kernel, by decide⟩, atG 1609 (by decide +kernel) rfl, atG 46 (by decide +kernel) rfl⟩
theorem lk_Mo_170 : Cond.methodLink "ShadeTownModel" 170 ⟨"ShadeTownModel", "isCaster", "(I)Z"⟩ ∈ tblG := atG 1607 (by decide +kernel) rfl
theorem d_Mo_stands_23 : decode prog_13_method_13_code 23 = .ok (.iconst 0, 1) := by decide +kernel
theorem d_Mo_stands_24 : decode prog_13_method_13_code 24 = .ok (.ireturn, 1) := by decide +kernel
theorem d_Mo_stands_8 : decode prog_13_method_13_code 8 = .ok (.aload_n 0, 1) := by decide +kernel
theorem d_Mo_stands_9 : decode prog_13_method_13_code 9 = .ok (.getfield 174, 3) := by decide +kernel
theorem d_Mo_stands_12 : decode prog_13_method_13_code 12 = .ok (.iload_n 1, 1) := by decide +kernel
theorem d_Mo_stands_13 : decode prog_13_method_13_code 13 = .ok (.invokestatic 177, 3) := by decide +kernel
theorem d_Mo_stands_19 : decode prog_13_method_13_code 19 = .ok (.iconst 1, 1) := by decide +kernel
theorem d_Mo_stands_20 : decode prog_13_method_13_code 20 = .ok (.goto 4, 3) := by decide +kernel
theorem d_Mo_stands_16 : decode prog_13_method_13_code 16 = .ok (.ifCond .eq 7, 3) := by decide +kernel
theorem d_Mo_stands_5 : decode prog_13_method_13_code 5 = .ok (.ifCond .eq 18, 3) := by decide +kernel
def f_Mo_stands (σ : Mem) (a1 : Int32) : Option (Int32) :=
  bnd1 (f_Mo_isCaster σ a1) fun r2 =>
  if r2 = 0 then
    (some 0)
  else
    (bnd1 (f_Mo_has (mI σ 65 1) a1) fun r13 =>
    if r13 = 0 then
      (some 0)
    else
      (some 1))
set_option maxHeartbeats 4000000 in
set_option maxRecDepth 20000 in
theorem c_Mo_stands (Z : ZX) {σ : Mem} {a1 : Int32} {r : Int32} (h : f_Mo_stands σ a1 = some r) : CI Z 1 m_Mo_stands [rf Z 65, .int a1] σ r σ := by
  refine Ct.of (by decide +kernel) (Nat.le_of_ble_eq_true rfl) (fun Y => ?_)
  show V (mkB Z) Y m_Mo_stands 1 (QP (mkB Z) Y nC 0 0 (fun v t => v = some (.int r) ∧ t = σ)) 0 0 nC σ 0 [(0, rf Z 65), (1, .int a1)] []
  unfold f_Mo_stands at h
  refine V.aload_n d_Mo_stands_0 rfl 0 rfl ?_
  refine V.iload_n d_Mo_stands_1 rfl 1 rfl ?_
  obtain ⟨r2, h1, h⟩ := bnd1_e h
  refine V.vI (as := [.int a1]) (st := []) (c_Mo_isCaster Z h1) k_Mo_isCaster lk_Mo_170 (by decide) rfl (by decide) ly_65 ok_Mo.1 rfl (Nat.le_of_ble_eq_true rfl) d_Mo_stands_2 ?_
  refine V.if_eq (tgt := 23) d_Mo_stands_5 (by decide) (fun hc5 => ?_) (fun hc5 => ?_)
  · replace h := ite_t hc5 h
    refine V.iconst (v := 0) d_Mo_stands_23 (by decide) ?_
    cases h
    exact V.zret rfl rfl d_Mo_stands_24 ⟨rfl, rfl⟩
  · replace h := ite_f hc5 h
    refine V.aload_n d_Mo_stands_8 rfl 0 rfl ?_
    refine V.getI ok_Mo fl_Mo_174 (by decide) (by decide) ly_65 rfl d_Mo_stands_9 ?_
    refine V.iload_n d_Mo_stands_12 rfl 1 rfl ?_
    obtain ⟨r13, h1, h⟩ := bnd1_e h
    refine V.sI (as := [.int (mI σ 65 1), .int a1]) (st := []) (c_Mo_has Z h1) k_Mo_has lk_Mo_177 (by decide) rfl rfl (Nat.le_of_ble_eq_true rfl) d_Mo_stands_13 ?_
    refine V.if_eq (tgt := 23) d_Mo_stands_16 (by decide) (fun hc16 => ?_) (fun hc16 => ?_)
    · replace h := ite_t hc16 h
      refine V.iconst (v := 0) d_Mo_stands_23 (by decide) ?_
      cases h
      exact V.zret rfl rfl d_Mo_stands_24 ⟨rfl, rfl⟩
    · replace h := ite_f hc16 h
      refine V.iconst (v := 1) d_Mo_stands_19 (by decide) ?_
      refine V.goto (tgt := 24) d_Mo_stands_20 (by decide) ?_
      cases h
      exact V.zret rfl rfl d_Mo_stands_24 ⟨rfl, rfl⟩
abbrev m_Mo_down : MI := (⟨"ShadeTownModel", "down", "(I)Z"⟩, prog_13_method_19_code, 2, (Option.some Jvm.ClassFile.FieldType.boolean))
theorem d_Mo_down_0 : decode prog_13_method_19_code 0 = .ok (.aload_n 0, 1) := by decide +kernel
theorem d_Mo_down_1 : decode prog_13_method_19_code 1 = .ok (.iload_n 1, 1) := by decide +kernel
theorem d_Mo_down_2 : decode prog_13_method_19_code 2 = .ok (.invokevirtual 199, 3) := by decide +kernel
theorem k_Mo_stands : MOk m_Mo_stands 1 ∧ IOk m_Mo_stands := ⟨⟨atG 1606 (by decide +kernel) rfl, atG 122 (by decide +kernel) rfl, ⟨by decide, by decide⟩, by decide +kernel, by decide⟩, atG 1605 (by decide +kernel) rfl, atG 45 (by decide +kernel) rfl⟩
theorem lk_Mo_199 : Cond.methodLink "ShadeTownModel" 199 ⟨"ShadeTownModel", "stands", "(I)Z"⟩ ∈ tblG := atG 1603 (by decide +kernel) rfl
theorem d_Mo_down_10 : decode prog_13_method_19_code 10 = .ok (.aload_n 0, 1) := by decide +kernel
theorem d_Mo_down_11 : decode prog_13_method_19_code 11 = .ok (.aload_n 0, 1) := by decide +kernel
theorem d_Mo_down_12 : decode prog_13_method_19_code 12 = .ok (.getfield 174, 3) := by decide +kernel
theorem d_Mo_down_15 : decode prog_13_method_19_code 15 = .ok (.iconst 1, 1) := by decide +kernel
theorem d_Mo_down_16 : decode prog_13_method_19_code 16 = .ok (.iload_n 1, 1) := by decide +kernel
theorem d_Mo_down_17 : decode prog_13_method_19_code 17 = .ok (.ishl, 1) := by decide +kernel
theorem d_Mo_down_18 : decode prog_13_method_19_code 18 = .ok (.iconst (-1), 1) := by decide +kernel
theorem d_Mo_down_19 : decode prog_13_method_19_code 19 = .ok (.ixor, 1) := by decide +kernel
theorem d_Mo_down_20 : decode prog_13_method_19_code 20 = .ok (.iand, 1) := by decide +kernel
theorem d_Mo_down_21 : decode prog_13_method_19_code 21 = .ok (.putfield 174, 3) := by decide +kernel
theorem d_Mo_down_24 : decode prog_13_method_19_code 24 = .ok (.iconst 1, 1) := by decide +kernel
theorem d_Mo_down_25 : decode prog_13_method_19_code 25 = .ok (.ireturn, 1) := by decide +kernel
theorem d_Mo_down_8 : decode prog_13_method_19_code 8 = .ok (.iconst 0, 1) := by decide +kernel
theorem d_Mo_down_9 : decode prog_13_method_19_code 9 = .ok (.ireturn, 1) := by decide +kernel
theorem d_Mo_down_5 : decode prog_13_method_19_code 5 = .ok (.ifCond .ne 5, 3) := by decide +kernel
def f_Mo_down (σ : Mem) (a1 : Int32) : Option (Int32 × Mem) :=
  bnd1 (f_Mo_stands σ a1) fun r2 =>
  if r2 = 0 then
    (some (0, σ))
  else
    (letv (sI σ 65 1 ((mI σ 65 1) &&& ((1 <<< (a1 &&& 31)) ^^^ (-1)))) fun σ21 =>
    some (1, σ21))
set_option maxHeartbeats 4000000 in
set_option maxRecDepth 20000 in
theorem c_Mo_down (Z : ZX) {σ : Mem} {a1 : Int32} {r : Int32} {σ' : Mem} (h : f_Mo_down σ a1 = some (r, σ')) : CI Z 2 m_Mo_down [rf Z 65, .int a1] σ r σ' := by
  refine Ct.of (by decide +kernel) (Nat.le_of_ble_eq_true rfl) (fun Y => ?_)
  show V (mkB Z) Y m_Mo_down 2 (QP (mkB Z) Y nC 0 0 (fun v t => v = some (.int r) ∧ t = σ')) 0 0 nC σ 0 [(0, rf Z 65), (1, .int a1)] []
  unfold f_Mo_down at h
  refine V.aload_n d_Mo_down_0 rfl 0 rfl ?_
  refine V.iload_n d_Mo_down_1 rfl 1 rfl ?_
  obtain ⟨r2, h1, h⟩ := bnd1_e h
  refine V.vI (as := [.int a1]) (st := []) (c_Mo_stands Z h1) k_Mo_stands lk_Mo_199 (by decide) rfl (by decide) ly_65 ok_Mo.1 rfl (Nat.le_of_ble_eq_true rfl) d_Mo_down_2 ?_
  refine V.if_ne (tgt := 10) d_Mo_down_5 (by decide) (fun hc5 => ?_) (fun hc5 => ?_)
  · replace h := ite_f hc5 h
    refine V.aload_n d_Mo_down_10 rfl 0 rfl ?_
    refine V.aload_n d_Mo_down_11 rfl 0 rfl ?_
    refine V.getI ok_Mo fl_Mo_174 (by decide) (by decide) ly_65 rfl d_Mo_down_12 ?_
    refine V.iconst (v := 1) d_Mo_down_15 (by decide) ?_
    refine V.iload_n d_Mo_down_16 rfl 1 rfl ?_
    refine V.ishl d_Mo_down_17 ?_
    refine V.iconst (v := (-1)) d_Mo_down_18 (by decide) ?_
    refine V.ixor d_Mo_down_19 ?_
    refine V.iand d_Mo_down_20 ?_
    obtain ⟨σ21, e_σ21, h⟩ := letv_e h
    refine V.putI ok_Mo fl_Mo_174 (by decide) (by decide) ly_65 rfl rfl rfl rfl d_Mo_down_21 (V.mem e_σ21 ?_)
    refine V.iconst (v := 1) d_Mo_down_24 (by decide) ?_
    cases h
    exact V.zret rfl rfl d_Mo_down_25 ⟨rfl, rfl⟩
  · replace h := ite_t hc5 h
    refine V.iconst (v := 0) d_Mo_down_8 (by decide) ?_
    cases h
    exact V.zret rfl rfl d_Mo_down_9 ⟨rfl, rfl⟩
abbrev m_Mo_move : MI := (⟨"ShadeTownModel", "move", "(III)Z"⟩, prog_13_method_20_code, 4, (Option.some Jvm.ClassFile.FieldType.boolean))
theorem d_Mo_move_0 : decode prog_13_method_20_code 0 = .ok (.aload_n 0, 1) := by decide +kernel
theorem d_Mo_move_1 : decode prog_13_method_20_code 1 = .ok (.iload_n 1, 1) := by decide +kernel
theorem d_Mo_move_2 : decode prog_13_method_20_code 2 = .ok (.invokevirtual 199, 3) := by decide +kernel
theorem d_Mo_move_39 : decode prog_13_method_20_code 39 = .ok (.iconst 0, 1) := by decide +kernel
theorem d_Mo_move_40 : decode prog_13_method_20_code 40 = .ok (.ireturn, 1) := by decide +kernel
theorem d_Mo_move_8 : decode prog_13_method_20_code 8 = .ok (.aload_n 0, 1) := by decide +kernel
theorem d_Mo_move_9 : decode prog_13_method_20_code 9 = .ok (.getfield 7, 3) := by decide +kernel
theorem d_Mo_move_12 : decode prog_13_method_20_code 12 = .ok (.iload_n 1, 1) := by decide +kernel
theorem d_Mo_move_13 : decode prog_13_method_20_code 13 = .ok (.iaload, 1) := by decide +kernel
theorem d_Mo_move_14 : decode prog_13_method_20_code 14 = .ok (.iconst 3, 1) := by decide +kernel
theorem d_Mo_move_18 : decode prog_13_method_20_code 18 = .ok (.iload_n 2, 1) := by decide +kernel
theorem d_Mo_move_19 : decode prog_13_method_20_code 19 = .ok (.iload_n 3, 1) := by decide +kernel
theorem d_Mo_move_20 : decode prog_13_method_20_code 20 = .ok (.invokestatic 185, 3) := by decide +kernel
theorem d_Mo_move_26 : decode prog_13_method_20_code 26 = .ok (.aload_n 0, 1) := by decide +kernel
theorem d_Mo_move_27 : decode prog_13_method_20_code 27 = .ok (.bipush 12, 2) := by decide +kernel
theorem d_Mo_move_29 : decode prog_13_method_20_code 29 = .ok (.iload_n 3, 1) := by decide +kernel
theorem d_Mo_move_30 : decode prog_13_method_20_code 30 = .ok (.imul, 1) := by decide +kernel
theorem d_Mo_move_31 : decode prog_13_method_20_code 31 = .ok (.iload_n 2, 1) := by decide +kernel
theorem d_Mo_move_32 : decode prog_13_method_20_code 32 = .ok (.iadd, 1) := by decide +kernel
theorem d_Mo_move_33 : decode prog_13_method_20_code 33 = .ok (.invokevirtual 192, 3) := by decide +kernel
theorem d_Mo_move_41 : decode prog_13_method_20_code 41 = .ok (.aload_n 0, 1) := by decide +kernel
theorem d_Mo_move_42 : decode prog_13_method_20_code 42 = .ok (.getfield 13, 3) := by decide +kernel
theorem d_Mo_move_45 : decode prog_13_method_20_code 45 = .ok (.iload_n 1, 1) := by decide +kernel
theorem d_Mo_move_46 : decode prog_13_method_20_code 46 = .ok (.bipush 12, 2) := by decide +kernel
theorem d_Mo_move_48 : decode prog_13_method_20_code 48 = .ok (.iload_n 3, 1) := by decide +kernel
theorem d_Mo_move_49 : decode prog_13_method_20_code 49 = .ok (.imul, 1) := by decide +kernel
theorem d_Mo_move_50 : decode prog_13_method_20_code 50 = .ok (.iload_n 2, 1) := by decide +kernel
theorem d_Mo_move_51 : decode prog_13_method_20_code 51 = .ok (.iadd, 1) := by decide +kernel
theorem d_Mo_move_52 : decode prog_13_method_20_code 52 = .ok (.iastore, 1) := by decide +kernel
theorem d_Mo_move_53 : decode prog_13_method_20_code 53 = .ok (.iconst 1, 1) := by decide +kernel
theorem d_Mo_move_54 : decode prog_13_method_20_code 54 = .ok (.ireturn, 1) := by decide +kernel
theorem d_Mo_move_36 : decode prog_13_method_20_code 36 = .ok (.ifCond .ne 5, 3) := by decide +kernel
theorem d_Mo_move_23 : decode prog_13_method_20_code 23 = .ok (.ifCond .eq 16, 3) := by decide +kernel
theorem d_Mo_move_15 : decode prog_13_method_20_code 15 = .ok (.if_icmp .ne 24, 3) := by decide +kernel
theorem d_Mo_move_5 : decode prog_13_method_20_code 5 = .ok (.ifCond .eq 34, 3) := by decide +kernel
def f_Mo_move (N : Nat) (σ : Mem) (a1 : Int32) (a2 : Int32) (a3 : Int32) : Option (Int32 × Mem) :=
  bnd1 (f_Mo_stands σ a1) fun r2 =>
  if r2 = 0 then
    (some (0, σ))
  else
    (grd (inb a1 17) <|
    if (mI σ 66 (a1.toNatClampNeg)) = 3 then
      (bnd1 (f_Mo_isIn a2 a3) fun r20 =>
      if r20 = 0 then
        (some (0, σ))
      else
        (bnd1 (f_Mo_isFree N σ ((12 * a3) + a2)) fun r33 =>
        if r33 = 0 then
          (some (0, σ))
        else
          (grd (inb a1 17) <|
          letv (sI σ 67 (a1.toNatClampNeg) ((12 * a3) + a2)) fun σ52 =>
          some (1, σ52))))
    else
      (some (0, σ)))
set_option maxHeartbeats 4000000 in
set_option maxRecDepth 20000 in
theorem c_Mo_move (Z : ZX) {N : Nat} {σ : Mem} {a1 : Int32} {a2 : Int32} {a3 : Int32} {r : Int32} {σ' : Mem} (h : f_Mo_move N σ a1 a2 a3 = some (r, σ')) : CI Z 3 m_Mo_move [rf Z 65, .int a1, .int a2, .int a3] σ r σ' := by
  refine Ct.of (by decide +kernel) (Nat.le_of_ble_eq_true rfl) (fun Y => ?_)
  show V (mkB Z) Y m_Mo_move 3 (QP (mkB Z) Y nC 0 0 (fun v t => v = some (.int r) ∧ t = σ')) 0 0 nC σ 0 [(0, rf Z 65), (1, .int a1), (2, .int a2), (3, .int a3)] []
  unfold f_Mo_move at h
  refine V.aload_n d_Mo_move_0 rfl 0 rfl ?_
  refine V.iload_n d_Mo_move_1 rfl 1 rfl ?_
  obtain ⟨r2, h1, h⟩ := bnd1_e h
  refine V.vI (as := [.int a1]) (st := []) (c_Mo_stands Z h1) k_Mo_stands lk_Mo_199 (by decide) rfl (by decide) ly_65 ok_Mo.1 rfl (Nat.le_of_ble_eq_true rfl) d_Mo_move_2 ?_
  refine V.if_eq (tgt := 39) d_Mo_move_5 (by decide) (fun hc5 => ?_) (fun hc5 => ?_)
  · replace h := ite_t hc5 h
    refine V.iconst (v := 0) d_Mo_move_39 (by decide) ?_
    cases h
    exact V.zret rfl rfl d_Mo_move_40 ⟨rfl, rfl⟩
  · replace h := ite_f hc5 h
    refine V.aload_n d_Mo_move_8 rfl 0 rfl ?_
    refine V.getR (r := 66) ok_Mo fl_Mo_7 (by decide) (by decide) ly_65 rfl d_Mo_move_9 ?_
    refine V.iload_n d_Mo_move_12 rfl 1 rfl ?_
    obtain ⟨gq, h⟩ := grd_e h
    refine V.ra (by decide) ly_66 (inb_e gq) rfl d_Mo_move_13 ?_
    refine V.iconst (v := 3) d_Mo_move_14 (by decide) ?_
    refine V.icmp_ne (tgt := 39) d_Mo_move_15 (by decide) (fun hc15 => ?_) (fun hc15 => ?_)
    · replace h := ite_f hc15 h
      refine V.iconst (v := 0) d_Mo_move_39 (by decide) ?_
      cases h
      exact V.zret rfl rfl d_Mo_move_40 ⟨rfl, rfl⟩
    · replace h := ite_t hc15 h
      refine V.iload_n d_Mo_move_18 rfl 2 rfl ?_
      refine V.iload_n d_Mo_move_19 rfl 3 rfl ?_
      obtain ⟨r20, h1, h⟩ := bnd1_e h
      refine V.sI (as := [.int a2, .int a3]) (st := []) (c_Mo_isIn Z h1) k_Mo_isIn lk_Mo_185 (by decide) rfl rfl (Nat.le_of_ble_eq_true rfl) d_Mo_move_20 ?_
      refine V.if_eq (tgt := 39) d_Mo_move_23 (by decide) (fun hc23 => ?_) (fun hc23 => ?_)
      · replace h := ite_t hc23 h
        refine V.iconst (v := 0) d_Mo_move_39 (by decide) ?_
        cases h
        exact V.zret rfl rfl d_Mo_move_40 ⟨rfl, rfl⟩
      · replace h := ite_f hc23 h
        refine V.aload_n d_Mo_move_26 rfl 0 rfl ?_
        refine V.bipush (v := 12) d_Mo_move_27 (by decide) ?_
        refine V.iload_n d_Mo_move_29 rfl 3 rfl ?_
        refine V.imul d_Mo_move_30 ?_
        refine V.iload_n d_Mo_move_31 rfl 2 rfl ?_
        refine V.iadd d_Mo_move_32 ?_
        obtain ⟨r33, h1, h⟩ := bnd1_e h
        refine V.vI (as := [.int ((12 * a3) + a2)]) (st := []) (c_Mo_isFree Z h1) k_Mo_isFree lk_Mo_192 (by decide) rfl (by decide) ly_65 ok_Mo.1 rfl (Nat.le_of_ble_eq_true rfl) d_Mo_move_33 ?_
        refine V.if_ne (tgt := 41) d_Mo_move_36 (by decide) (fun hc36 => ?_) (fun hc36 => ?_)
        · replace h := ite_f hc36 h
          refine V.aload_n d_Mo_move_41 rfl 0 rfl ?_
          refine V.getR (r := 67) ok_Mo fl_Mo_13 (by decide) (by decide) ly_65 rfl d_Mo_move_42 ?_
          refine V.iload_n d_Mo_move_45 rfl 1 rfl ?_
          refine V.bipush (v := 12) d_Mo_move_46 (by decide) ?_
          refine V.iload_n d_Mo_move_48 rfl 3 rfl ?_
          refine V.imul d_Mo_move_49 ?_
          refine V.iload_n d_Mo_move_50 rfl 2 rfl ?_
          refine V.iadd d_Mo_move_51 ?_
          obtain ⟨gq, h⟩ := grd_e h
          obtain ⟨σ52, e_σ52, h⟩ := letv_e h
          refine V.wa (by decide) ly_67 (inb_e gq) rfl d_Mo_move_52 e_σ52 ?_
          refine V.iconst (v := 1) d_Mo_move_53 (by decide) ?_
          cases h
          exact V.zret rfl rfl d_Mo_move_54 ⟨rfl, rfl⟩
        · replace h := ite_t hc36 h
          refine V.iconst (v := 0) d_Mo_move_39 (by decide) ?_
          cases h
          exact V.zret rfl rfl d_Mo_move_40 ⟨rfl, rfl⟩
abbrev m_Mo_season : MI := (⟨"ShadeTownModel", "season", "(I)Z"⟩, prog_13_method_21_code, 2, (Option.some Jvm.ClassFile.FieldType.boolean))
theorem d_Mo_season_0 : decode prog_13_method_21_code 0 = .ok (.iload_n 1, 1) := by decide +kernel
theorem d_Mo_season_1 : decode prog_13_method_21_code 1 = .ok (.iconst 0, 1) := by decide +kernel
theorem d_Mo_season_2 : decode prog_13_method_21_code 2 = .ok (.iconst 3, 1) := by decide +kernel
theorem d_Mo_season_3 : decode prog_13_method_21_code 3 = .ok (.invokestatic 188, 3) := by decide +kernel
theorem d_Mo_season_11 : decode prog_13_method_21_code 11 = .ok (.aload_n 0, 1) := by decide +kernel
theorem d_Mo_season_12 : decode prog_13_method_21_code 12 = .ok (.iload_n 1, 1) := by decide +kernel
theorem fl_Mo_202 : FL "ShadeTownModel" 202 T_Mo 2 := atG 1334 (by decide +kernel) rfl
theorem d_Mo_season_13 : decode prog_13_method_21_code 13 = .ok (.putfield 202, 3) := by decide +kernel
theorem d_Mo_season_16 : decode prog_13_method_21_code 16 = .ok (.iconst 1, 1) := by decide +kernel
theorem d_Mo_season_17 : decode prog_13_method_21_code 17 = .ok (.ireturn, 1) := by decide +kernel
theorem d_Mo_season_9 : decode prog_13_method_21_code 9 = .ok (.iconst 0, 1) := by decide +kernel
theorem d_Mo_season_10 : decode prog_13_method_21_code 10 = .ok (.ireturn, 1) := by decide +kernel
theorem d_Mo_season_6 : decode prog_13_method_21_code 6 = .ok (.ifCond .ne 5, 3) := by decide +kernel
def f_Mo_season (σ : Mem) (a1 : Int32) : Option (Int32 × Mem) :=
  bnd1 (f_Mo_in a1 0 3) fun r3 =>
  if r3 = 0 then
    (some (0, σ))
  else
    (letv (sI σ 65 2 a1) fun σ13 =>
    some (1, σ13))
set_option maxHeartbeats 4000000 in
set_option maxRecDepth 20000 in
theorem c_Mo_season (Z : ZX) {σ : Mem} {a1 : Int32} {r : Int32} {σ' : Mem} (h : f_Mo_season σ a1 = some (r, σ')) : CI Z 1 m_Mo_season [rf Z 65, .int a1] σ r σ' := by
  refine Ct.of (by decide +kernel) (Nat.le_of_ble_eq_true rfl) (fun Y => ?_)
  show V (mkB Z) Y m_Mo_season 1 (QP (mkB Z) Y nC 0 0 (fun v t => v = some (.int r) ∧ t = σ')) 0 0 nC σ 0 [(0, rf Z 65), (1, .int a1)] []
  unfold f_Mo_season at h
  refine V.iload_n d_Mo_season_0 rfl 1 rfl ?_
  refine V.iconst (v := 0) d_Mo_season_1 (by decide) ?_
  refine V.iconst (v := 3) d_Mo_season_2 (by decide) ?_
  obtain ⟨r3, h1, h⟩ := bnd1_e h
  refine V.sI (as := [.int a1, .int 0, .int 3]) (st := []) (c_Mo_in Z h1) k_Mo_in lk_Mo_188 (by decide) rfl rfl (Nat.le_of_ble_eq_true rfl) d_Mo_season_3 ?_
  refine V.if_ne (tgt := 11) d_Mo_season_6 (by decide) (fun hc6 => ?_) (fun hc6 => ?_)
  · replace h := ite_f hc6 h
    refine V.aload_n d_Mo_season_11 rfl 0 rfl ?_
    refine V.iload_n d_Mo_season_12 rfl 1 rfl ?_
    obtain ⟨σ13, e_σ13, h⟩ := letv_e h
    refine V.putI ok_Mo fl_Mo_202 (by decide) (by decide) ly_65 rfl rfl rfl rfl d_Mo_season_13 (V.mem e_σ13 ?_)
    refine V.iconst (v := 1) d_Mo_season_16 (by decide) ?_
    cases h
    exact V.zret rfl rfl d_Mo_season_17 ⟨rfl, rfl⟩
  · replace h := ite_t hc6 h
    refine V.iconst (v := 0) d_Mo_season_9 (by decide) ?_
    cases h
    exact V.zret rfl rfl d_Mo_season_10 ⟨rfl, rfl⟩
abbrev m_Mo_casterIs : MI := (⟨"ShadeTownModel", "casterIs", "(II)I"⟩, prog_13_method_22_code, 3, (Option.some Jvm.ClassFile.FieldType.int))
theorem d_Mo_casterIs_0 : decode prog_13_method_22_code 0 = .ok (.aload_n 0, 1) := by decide +kernel
theorem d_Mo_casterIs_1 : decode prog_13_method_22_code 1 = .ok (.iload_n 1, 1) := by decide +kernel
theorem d_Mo_casterIs_2 : decode prog_13_method_22_code 2 = .ok (.invokevirtual 170, 3) := by decide +kernel
theorem d_Mo_casterIs_10 : decode prog_13_method_22_code 10 = .ok (.iload_n 2, 1) := by decide +kernel
theorem d_Mo_casterIs_48 : decode prog_13_method_22_code 48 = .ok (.aload_n 0, 1) := by decide +kernel
theorem d_Mo_casterIs_49 : decode prog_13_method_22_code 49 = .ok (.getfield 7, 3) := by decide +kernel
theorem d_Mo_casterIs_52 : decode prog_13_method_22_code 52 = .ok (.iload_n 1, 1) := by decide +kernel
theorem d_Mo_casterIs_53 : decode prog_13_method_22_code 53 = .ok (.iaload, 1) := by decide +kernel
theorem d_Mo_casterIs_54 : decode prog_13_method_22_code 54 = .ok (.ireturn, 1) := by decide +kernel
theorem d_Mo_casterIs_55 : decode prog_13_method_22_code 55 = .ok (.aload_n 0, 1) := by decide +kernel
theorem d_Mo_casterIs_56 : decode prog_13_method_22_code 56 = .ok (.getfield 13, 3) := by decide +kernel
theorem d_Mo_casterIs_59 : decode prog_13_method_22_code 59 = .ok (.iload_n 1, 1) := by decide +kernel
theorem d_Mo_casterIs_60 : decode prog_13_method_22_code 60 = .ok (.iaload, 1) := by decide +kernel
theorem d_Mo_casterIs_61 : decode prog_13_method_22_code 61 = .ok (.ireturn, 1) := by decide +kernel
theorem d_Mo_casterIs_62 : decode prog_13_method_22_code 62 = .ok (.aload_n 0, 1) := by decide +kernel
theorem d_Mo_casterIs_63 : decode prog_13_method_22_code 63 = .ok (.getfield 16, 3) := by decide +kernel
theorem d_Mo_casterIs_66 : decode prog_13_method_22_code 66 = .ok (.iload_n 1, 1) := by decide +kernel
theorem d_Mo_casterIs_67 : decode prog_13_method_22_code 67 = .ok (.iaload, 1) := by decide +kernel
theorem d_Mo_casterIs_68 : decode prog_13_method_22_code 68 = .ok (.ireturn, 1) := by decide +kernel
theorem d_Mo_casterIs_69 : decode prog_13_method_22_code 69 = .ok (.aload_n 0, 1) := by decide +kernel
theorem d_Mo_casterIs_70 : decode prog_13_method_22_code 70 = .ok (.getfield 19, 3) := by decide +kernel
theorem d_Mo_casterIs_73 : decode prog_13_method_22_code 73 = .ok (.iload_n 1, 1) := by decide +kernel
theorem d_Mo_casterIs_74 : decode prog_13_method_22_code 74 = .ok (.iaload, 1) := by decide +kernel
theorem d_Mo_casterIs_75 : decode prog_13_method_22_code 75 = .ok (.ireturn, 1) := by decide +kernel
theorem d_Mo_casterIs_76 : decode prog_13_method_22_code 76 = .ok (.aload_n 0, 1) := by decide +kernel
theorem d_Mo_casterIs_77 : decode prog_13_method_22_code 77 = .ok (.getfield 22, 3) := by decide +kernel
theorem d_Mo_casterIs_80 : decode prog_13_method_22_code 80 = .ok (.iload_n 1, 1) := by decide +kernel
theorem d_Mo_casterIs_81 : decode prog_13_method_22_code 81 = .ok (.iaload, 1) := by decide +kernel
theorem d_Mo_casterIs_82 : decode prog_13_method_22_code 82 = .ok (.ireturn, 1) := by decide +kernel
theorem d_Mo_casterIs_83 : decode prog_13_method_22_code 83 = .ok (.aload_n 0, 1) := by decide +kernel
theorem d_Mo_casterIs_84 : decode prog_13_method_22_code 84 = .ok (.getfield 174, 3) := by decide +kernel
theorem d_Mo_casterIs_87 : decode prog_13_method_22_code 87 = .ok (.iload_n 1, 1) := by decide +kernel
theorem d_Mo_casterIs_88 : decode prog_13_method_22_code 88 = .ok (.invokestatic 177, 3) := by decide +kernel
theorem d_Mo_casterIs_98 : decode prog_13_method_22_code 98 = .ok (.iconst 0, 1) := by decide +kernel
theorem d_Mo_casterIs_99 : decode prog_13_method_22_code 99 = .ok (.ireturn, 1) := by decide +kernel
theorem d_Mo_casterIs_94 : decode prog_13_method_22_code 94 = .ok (.iconst 1, 1) := by decide +kernel
theorem d_Mo_casterIs_95 : decode prog_13_method_22_code 95 = .ok (.goto 4, 3) := by decide +kernel
theorem d_Mo_casterIs_91 : decode prog_13_method_22_code 91 = .ok (.ifCond .eq 7, 3) := by decide +kernel
theorem d_Mo_casterIs_100 : decode prog_13_method_22_code 100 = .ok (.iconst (-1), 1) := by decide +kernel
theorem d_Mo_casterIs_101 : decode prog_13_method_22_code 101 = .ok (.ireturn, 1) := by decide +kernel
theorem d_Mo_casterIs_11 : decode prog_13_method_22_code 11 = .ok (.tableswitch 89 0 5 #[37, 44, 51, 58, 65, 72], 37) := by decide +kernel
theorem d_Mo_casterIs_8 : decode prog_13_method_22_code 8 = .ok (.iconst (-1), 1) := by decide +kernel
theorem d_Mo_casterIs_9 : decode prog_13_method_22_code 9 = .ok (.ireturn, 1) := by decide +kernel
theorem d_Mo_casterIs_5 : decode prog_13_method_22_code 5 = .ok (.ifCond .ne 5, 3) := by decide +kernel
def f_Mo_casterIs (σ : Mem) (a1 : Int32) (a2 : Int32) : Option (Int32) :=
  bnd1 (f_Mo_isCaster σ a1) fun r2 =>
  if r2 = 0 then
    (some (-1))
  else
    (if a2 = 0 then
      (grd (inb a1 17) <|
      some (mI σ 66 (a1.toNatClampNeg)))
    else
    if a2 = 1 then
      (grd (inb a1 17) <|
      some (mI σ 67 (a1.toNatClampNeg)))
    else
    if a2 = 2 then
      (grd (inb a1 17) <|
      some (mI σ 68 (a1.toNatClampNeg)))
    else
    if a2 = 3 then
      (grd (inb a1 17) <|
      some (mI σ 69 (a1.toNatClampNeg)))
    else
    if a2 = 4 then
      (grd (inb a1 17) <|
      some (mI σ 70 (a1.toNatClampNeg)))
    else
    if a2 = 5 then
      (bnd1 (f_Mo_has (mI σ 65 1) a1) fun r88 =>
      if r88 = 0 then
        (some 0)
      else
        (some 1))
    else
    (some (-1)))
set_option maxHeartbeats 4000000 in
set_option maxRecDepth 20000 in
theorem c_Mo_casterIs (Z : ZX) {σ : Mem} {a1 : Int32} {a2 : Int32} {r : Int32} (h : f_Mo_casterIs σ a1 a2 = some r) : CI Z 1 m_Mo_casterIs [rf Z 65, .int a1, .int a2] σ r σ := by
  refine Ct.of (by decide +kernel) (Nat.le_of_ble_eq_true rfl) (fun Y => ?_)
  show V (mkB Z) Y m_Mo_casterIs 1 (QP (mkB Z) Y nC 0 0 (fun v t => v = some (.int r) ∧ t = σ)) 0 0 nC σ 0 [(0, rf Z 65), (1, .int a1), (2, .int a2)] []
  unfold f_Mo_casterIs at h
  refine V.aload_n d_Mo_casterIs_0 rfl 0 rfl ?_
  refine V.iload_n d_Mo_casterIs_1 rfl 1 rfl ?_
  obtain ⟨r2, h1, h⟩ := bnd1_e h
  refine V.vI (as := [.int a1]) (st := []) (c_Mo_isCaster Z h1) k_Mo_isCaster lk_Mo_170 (by decide) rfl (by decide) ly_65 ok_Mo.1 rfl (Nat.le_of_ble_eq_true rfl) d_Mo_casterIs_2 ?_
  refine V.if_ne (tgt := 10) d_Mo_casterIs_5 (by decide) (fun hc5 => ?_) (fun hc5 => ?_)
  · replace h := ite_f hc5 h
    refine V.iload_n d_Mo_casterIs_10 rfl 2 rfl ?_
    by_cases hs11_0 : a2 = 0
    · replace h := ite_t hs11_0 h
      refine V.tin (c := 0) (tgt := 48) d_Mo_casterIs_11 hs11_0 (by decide) (by decide) rfl (by decide) ?_
      refine V.aload_n d_Mo_casterIs_48 rfl 0 rfl ?_
      refine V.getR (r := 66) ok_Mo fl_Mo_7 (by decide) (by decide) ly_65 rfl d_Mo_casterIs_49 ?_
      refine V.iload_n d_Mo_casterIs_52 rfl 1 rfl ?_
      obtain ⟨gq, h⟩ := grd_e h
      refine V.ra (by decide) ly_66 (inb_e gq) rfl d_Mo_casterIs_53 ?_
      cases h
      exact V.iret rfl d_Mo_casterIs_54 ⟨rfl, rfl⟩
    · replace h := ite_f hs11_0 h
      by_cases hs11_1 : a2 = 1
      · replace h := ite_t hs11_1 h
        refine V.tin (c := 1) (tgt := 55) d_Mo_casterIs_11 hs11_1 (by decide) (by decide) rfl (by decide) ?_
        refine V.aload_n d_Mo_casterIs_55 rfl 0 rfl ?_
        refine V.getR (r := 67) ok_Mo fl_Mo_13 (by decide) (by decide) ly_65 rfl d_Mo_casterIs_56 ?_
        refine V.iload_n d_Mo_casterIs_59 rfl 1 rfl ?_
        obtain ⟨gq, h⟩ := grd_e h
        refine V.ra (by decide) ly_67 (inb_e gq) rfl d_Mo_casterIs_60 ?_
        cases h
        exact V.iret rfl d_Mo_casterIs_61 ⟨rfl, rfl⟩
      · replace h := ite_f hs11_1 h
        by_cases hs11_2 : a2 = 2
        · replace h := ite_t hs11_2 h
          refine V.tin (c := 2) (tgt := 62) d_Mo_casterIs_11 hs11_2 (by decide) (by decide) rfl (by decide) ?_
          refine V.aload_n d_Mo_casterIs_62 rfl 0 rfl ?_
          refine V.getR (r := 68) ok_Mo fl_Mo_16 (by decide) (by decide) ly_65 rfl d_Mo_casterIs_63 ?_
          refine V.iload_n d_Mo_casterIs_66 rfl 1 rfl ?_
          obtain ⟨gq, h⟩ := grd_e h
          refine V.ra (by decide) ly_68 (inb_e gq) rfl d_Mo_casterIs_67 ?_
          cases h
          exact V.iret rfl d_Mo_casterIs_68 ⟨rfl, rfl⟩
        · replace h := ite_f hs11_2 h
          by_cases hs11_3 : a2 = 3
          · replace h := ite_t hs11_3 h
            refine V.tin (c := 3) (tgt := 69) d_Mo_casterIs_11 hs11_3 (by decide) (by decide) rfl (by decide) ?_
            refine V.aload_n d_Mo_casterIs_69 rfl 0 rfl ?_
            refine V.getR (r := 69) ok_Mo fl_Mo_19 (by decide) (by decide) ly_65 rfl d_Mo_casterIs_70 ?_
            refine V.iload_n d_Mo_casterIs_73 rfl 1 rfl ?_
            obtain ⟨gq, h⟩ := grd_e h
            refine V.ra (by decide) ly_69 (inb_e gq) rfl d_Mo_casterIs_74 ?_
            cases h
            exact V.iret rfl d_Mo_casterIs_75 ⟨rfl, rfl⟩
          · replace h := ite_f hs11_3 h
            by_cases hs11_4 : a2 = 4
            · replace h := ite_t hs11_4 h
              refine V.tin (c := 4) (tgt := 76) d_Mo_casterIs_11 hs11_4 (by decide) (by decide) rfl (by decide) ?_
              refine V.aload_n d_Mo_casterIs_76 rfl 0 rfl ?_
              refine V.getR (r := 70) ok_Mo fl_Mo_22 (by decide) (by decide) ly_65 rfl d_Mo_casterIs_77 ?_
              refine V.iload_n d_Mo_casterIs_80 rfl 1 rfl ?_
              obtain ⟨gq, h⟩ := grd_e h
              refine V.ra (by decide) ly_70 (inb_e gq) rfl d_Mo_casterIs_81 ?_
              cases h
              exact V.iret rfl d_Mo_casterIs_82 ⟨rfl, rfl⟩
            · replace h := ite_f hs11_4 h
              by_cases hs11_5 : a2 = 5
              · replace h := ite_t hs11_5 h
                refine V.tin (c := 5) (tgt := 83) d_Mo_casterIs_11 hs11_5 (by decide) (by decide) rfl (by decide) ?_
                refine V.aload_n d_Mo_casterIs_83 rfl 0 rfl ?_
                refine V.getI ok_Mo fl_Mo_174 (by decide) (by decide) ly_65 rfl d_Mo_casterIs_84 ?_
                refine V.iload_n d_Mo_casterIs_87 rfl 1 rfl ?_
                obtain ⟨r88, h1, h⟩ := bnd1_e h
                refine V.sI (as := [.int (mI σ 65 1), .int a1]) (st := []) (c_Mo_has Z h1) k_Mo_has lk_Mo_177 (by decide) rfl rfl (Nat.le_of_ble_eq_true rfl) d_Mo_casterIs_88 ?_
                refine V.if_eq (tgt := 98) d_Mo_casterIs_91 (by decide) (fun hc91 => ?_) (fun hc91 => ?_)
                · replace h := ite_t hc91 h
                  refine V.iconst (v := 0) d_Mo_casterIs_98 (by decide) ?_
                  cases h
                  exact V.iret rfl d_Mo_casterIs_99 ⟨rfl, rfl⟩
                · replace h := ite_f hc91 h
                  refine V.iconst (v := 1) d_Mo_casterIs_94 (by decide) ?_
                  refine V.goto (tgt := 99) d_Mo_casterIs_95 (by decide) ?_
                  cases h
                  exact V.iret rfl d_Mo_casterIs_99 ⟨rfl, rfl⟩
              · replace h := ite_f hs11_5 h
                refine V.tdef (tgt := 100) d_Mo_casterIs_11 (fun i h1 h2 => ?_) (by decide) ?_
                · rcases (show i = 0 ∨ i = 1 ∨ i = 2 ∨ i = 3 ∨ i = 4 ∨ i = 5 by omega) with rfl | rfl | rfl | rfl | rfl | rfl
                  · exact Or.inl (fun e => hs11_0 (e.trans (by decide)))
                  · exact Or.inl (fun e => hs11_1 (e.trans (by decide)))
                  · exact Or.inl (fun e => hs11_2 (e.trans (by decide)))
                  · exact Or.inl (fun e => hs11_3 (e.trans (by decide)))
                  · exact Or.inl (fun e => hs11_4 (e.trans (by decide)))
                  · exact Or.inl (fun e => hs11_5 (e.trans (by decide)))
                · refine V.iconst (v := (-1)) d_Mo_casterIs_100 (by decide) ?_
                  cases h
                  exact V.iret rfl d_Mo_casterIs_101 ⟨rfl, rfl⟩
  · replace h := ite_t hc5 h
    refine V.iconst (v := (-1)) d_Mo_casterIs_8 (by decide) ?_
    cases h
    exact V.iret rfl d_Mo_casterIs_9 ⟨rfl, rfl⟩
abbrev m_Mo_isHour : MI := (⟨"ShadeTownModel", "isHour", "(I)Z"⟩, prog_13_method_9_code, 1, (Option.some Jvm.ClassFile.FieldType.boolean))
theorem d_Mo_isHour_0 : decode prog_13_method_9_code 0 = .ok (.iload_n 0, 1) := by decide +kernel
theorem d_Mo_isHour_14 : decode prog_13_method_9_code 14 = .ok (.iconst 0, 1) := by decide +kernel
theorem d_Mo_isHour_15 : decode prog_13_method_9_code 15 = .ok (.ireturn, 1) := by decide +kernel
theorem d_Mo_isHour_4 : decode prog_13_method_9_code 4 = .ok (.iload_n 0, 1) := by decide +kernel
theorem d_Mo_isHour_5 : decode prog_13_method_9_code 5 = .ok (.bipush 24, 2) := by decide +kernel
theorem d_Mo_isHour_10 : decode prog_13_method_9_code 10 = .ok (.iconst 1, 1) := by decide +kernel
theorem d_Mo_isHour_11 : decode prog_13_method_9_code 11 = .ok (.goto 4, 3) := by decide +kernel
theorem d_Mo_isHour_7 : decode prog_13_method_9_code 7 = .ok (.if_icmp .ge 7, 3) := by decide +kernel
theorem d_Mo_isHour_1 : decode prog_13_method_9_code 1 = .ok (.ifCond .lt 13, 3) := by decide +kernel
def f_Mo_isHour (a0 : Int32) : Option (Int32) :=
  if a0 < 0 then
    (some 0)
  else
    (if 24 ≤ a0 then
      (some 0)
    else
      (some 1))
set_option maxHeartbeats 4000000 in
set_option maxRecDepth 20000 in
theorem c_Mo_isHour (Z : ZX) {σ : Mem} {a0 : Int32} {r : Int32} (h : f_Mo_isHour a0 = some r) : CI Z 0 m_Mo_isHour [.int a0] σ r σ := by
  refine Ct.of (by decide +kernel) (Nat.le_of_ble_eq_true rfl) (fun Y => ?_)
  show V (mkB Z) Y m_Mo_isHour 0 (QP (mkB Z) Y nC 0 0 (fun v t => v = some (.int r) ∧ t = σ)) 0 0 nC σ 0 [(0, .int a0)] []
  unfold f_Mo_isHour at h
  refine V.iload_n d_Mo_isHour_0 rfl 0 rfl ?_
  refine V.if_lt (tgt := 14) d_Mo_isHour_1 (by decide) (fun hc1 => ?_) (fun hc1 => ?_)
  · replace h := ite_t hc1 h
    refine V.iconst (v := 0) d_Mo_isHour_14 (by decide) ?_
    cases h
    exact V.zret rfl rfl d_Mo_isHour_15 ⟨rfl, rfl⟩
  · replace h := ite_f hc1 h
    refine V.iload_n d_Mo_isHour_4 rfl 0 rfl ?_
    refine V.bipush (v := 24) d_Mo_isHour_5 (by decide) ?_
    refine V.icmp_ge (tgt := 14) d_Mo_isHour_7 (by decide) (fun hc7 => ?_) (fun hc7 => ?_)
    · replace h := ite_t hc7 h
      refine V.iconst (v := 0) d_Mo_isHour_14 (by decide) ?_
      cases h
      exact V.zret rfl rfl d_Mo_isHour_15 ⟨rfl, rfl⟩
    · replace h := ite_f hc7 h
      refine V.iconst (v := 1) d_Mo_isHour_10 (by decide) ?_
      refine V.goto (tgt := 15) d_Mo_isHour_11 (by decide) ?_
      cases h
      exact V.zret rfl rfl d_Mo_isHour_15 ⟨rfl, rfl⟩
