abbrev m_Rd_readClause : MI := (⟨"ShadeTown$LawReader", "readClause", "()Z"⟩, prog_5_method_9_code, 2, (Option.some Jvm.ClassFile.FieldType.boolean))
theorem d_Rd_readClause_0 : decode prog_5_method_9_code 0 = .ok (.aload_n 0, 1) := by decide +kernel
theorem d_Rd_readClause_1 : decode prog_5_method_9_code 1 = .ok (.ldc 77, 2) := by decide +kernel
theorem d_Rd_readClause_3 : decode prog_5_method_9_code 3 = .ok (.invokevirtual 79, 3) := by decide +kernel
theorem d_Rd_readClause_15 : decode prog_5_method_9_code 15 = .ok (.aload_n 0, 1) := by decide +kernel
theorem d_Rd_readClause_16 : decode prog_5_method_9_code 16 = .ok (.getfield 29, 3) := by decide +kernel
theorem d_Rd_readClause_19 : decode prog_5_method_9_code 19 = .ok (.invokevirtual 54, 3) := by decide +kernel
theorem k_La_clauses : MOk m_La_clauses 0 ∧ IOk m_La_clauses := ⟨⟨atG 602 (by decide +kernel) rfl, atG 113 (by decide +kernel) rfl, ⟨by decide, by decide⟩, by decide +kernel, by decide⟩, atG 600 (by decide +kernel) rfl, atG 601 (by decide +kernel) rfl⟩
theorem lk_Rd_54 : Cond.methodLink "ShadeTown$LawReader" 54 ⟨"ShadeTown$Law", "clauses", "()I"⟩ ∈ tblG := atG 599 (by decide +kernel) rfl
theorem d_Rd_readClause_22 : decode prog_5_method_9_code 22 = .ok (.bipush 16, 2) := by decide +kernel
theorem d_Rd_readClause_33 : decode prog_5_method_9_code 33 = .ok (.aload_n 0, 1) := by decide +kernel
theorem d_Rd_readClause_34 : decode prog_5_method_9_code 34 = .ok (.invokevirtual 58, 3) := by decide +kernel
theorem d_Rd_readClause_37 : decode prog_5_method_9_code 37 = .ok (.istore_n 1, 1) := by decide +kernel
theorem d_Rd_readClause_38 : decode prog_5_method_9_code 38 = .ok (.aload_n 0, 1) := by decide +kernel
theorem d_Rd_readClause_39 : decode prog_5_method_9_code 39 = .ok (.dup, 1) := by decide +kernel
theorem d_Rd_readClause_40 : decode prog_5_method_9_code 40 = .ok (.getfield 19, 3) := by decide +kernel
theorem d_Rd_readClause_43 : decode prog_5_method_9_code 43 = .ok (.iconst 1, 1) := by decide +kernel
theorem d_Rd_readClause_44 : decode prog_5_method_9_code 44 = .ok (.iadd, 1) := by decide +kernel
theorem d_Rd_readClause_45 : decode prog_5_method_9_code 45 = .ok (.putfield 19, 3) := by decide +kernel
theorem d_Rd_readClause_48 : decode prog_5_method_9_code 48 = .ok (.aload_n 0, 1) := by decide +kernel
theorem d_Rd_readClause_49 : decode prog_5_method_9_code 49 = .ok (.getfield 29, 3) := by decide +kernel
theorem d_Rd_readClause_52 : decode prog_5_method_9_code 52 = .ok (.iload_n 1, 1) := by decide +kernel
theorem d_Rd_readClause_53 : decode prog_5_method_9_code 53 = .ok (.invokevirtual 83, 3) := by decide +kernel
theorem k_La_beginClause : MOk m_La_beginClause 1 ∧ IOk m_La_beginClause := ⟨⟨atG 606 (by decide +kernel) rfl, atG 113 (by decide +kernel) rfl, ⟨by decide, by decide⟩, by decide +kernel, by decide⟩, atG 604 (by decide +kernel) rfl, atG 605 (by decide +kernel) rfl⟩
theorem lk_Rd_83 : Cond.methodLink "ShadeTown$LawReader" 83 ⟨"ShadeTown$Law", "beginClause", "(I)V"⟩ ∈ tblG := atG 603 (by decide +kernel) rfl
theorem d_Rd_readClause_56 : decode prog_5_method_9_code 56 = .ok (.iload_n 1, 1) := by decide +kernel
theorem d_Rd_readClause_57 : decode prog_5_method_9_code 57 = .ok (.bipush 117, 2) := by decide +kernel
theorem d_Rd_readClause_80 : decode prog_5_method_9_code 80 = .ok (.aload_n 0, 1) := by decide +kernel
theorem d_Rd_readClause_81 : decode prog_5_method_9_code 81 = .ok (.getfield 29, 3) := by decide +kernel
theorem d_Rd_readClause_84 : decode prog_5_method_9_code 84 = .ok (.invokevirtual 93, 3) := by decide +kernel
theorem k_La_beginCondition : MOk m_La_beginCondition 0 ∧ IOk m_La_beginCondition := ⟨⟨atG 645 (by decide +kernel) rfl, atG 113 (by decide +kernel) rfl, ⟨by decide, by decide⟩, by decide +kernel, by decide⟩, atG 643 (by decide +kernel) rfl, atG 644 (by decide +kernel) rfl⟩
theorem lk_Rd_93 : Cond.methodLink "ShadeTown$LawReader" 93 ⟨"ShadeTown$Law", "beginCondition", "()V"⟩ ∈ tblG := atG 642 (by decide +kernel) rfl
theorem d_Rd_readClause_87 : decode prog_5_method_9_code 87 = .ok (.aload_n 0, 1) := by decide +kernel
theorem d_Rd_readClause_88 : decode prog_5_method_9_code 88 = .ok (.bipush 40, 2) := by decide +kernel
theorem d_Rd_readClause_90 : decode prog_5_method_9_code 90 = .ok (.invokevirtual 73, 3) := by decide +kernel
theorem d_Rd_readClause_113 : decode prog_5_method_9_code 113 = .ok (.iconst 0, 1) := by decide +kernel
theorem d_Rd_readClause_114 : decode prog_5_method_9_code 114 = .ok (.ireturn, 1) := by decide +kernel
theorem d_Rd_readClause_96 : decode prog_5_method_9_code 96 = .ok (.aload_n 0, 1) := by decide +kernel
theorem d_Rd_readClause_97 : decode prog_5_method_9_code 97 = .ok (.iconst 1, 1) := by decide +kernel
theorem d_Rd_readClause_98 : decode prog_5_method_9_code 98 = .ok (.invokevirtual 96, 3) := by decide +kernel
theorem d_Rd_readClause_104 : decode prog_5_method_9_code 104 = .ok (.aload_n 0, 1) := by decide +kernel
theorem d_Rd_readClause_105 : decode prog_5_method_9_code 105 = .ok (.bipush 41, 2) := by decide +kernel
theorem d_Rd_readClause_107 : decode prog_5_method_9_code 107 = .ok (.invokevirtual 73, 3) := by decide +kernel
theorem d_Rd_readClause_115 : decode prog_5_method_9_code 115 = .ok (.aload_n 0, 1) := by decide +kernel
theorem d_Rd_readClause_116 : decode prog_5_method_9_code 116 = .ok (.getfield 29, 3) := by decide +kernel
theorem d_Rd_readClause_119 : decode prog_5_method_9_code 119 = .ok (.iconst 0, 1) := by decide +kernel
theorem d_Rd_readClause_120 : decode prog_5_method_9_code 120 = .ok (.invokevirtual 90, 3) := by decide +kernel
theorem d_Rd_readClause_123 : decode prog_5_method_9_code 123 = .ok (.aload_n 0, 1) := by decide +kernel
theorem d_Rd_readClause_124 : decode prog_5_method_9_code 124 = .ok (.getfield 29, 3) := by decide +kernel
theorem d_Rd_readClause_127 : decode prog_5_method_9_code 127 = .ok (.invokevirtual 99, 3) := by decide +kernel
theorem k_La_endClause : MOk m_La_endClause 0 ∧ IOk m_La_endClause := ⟨⟨atG 671 (by decide +kernel) rfl, atG 113 (by decide +kernel) rfl, ⟨by decide, by decide⟩, by decide +kernel, by decide⟩, atG 669 (by decide +kernel) rfl, atG 670 (by decide +kernel) rfl⟩
theorem lk_Rd_99 : Cond.methodLink "ShadeTown$LawReader" 99 ⟨"ShadeTown$Law", "endClause", "()V"⟩ ∈ tblG := atG 668 (by decide +kernel) rfl
theorem d_Rd_readClause_130 : decode prog_5_method_9_code 130 = .ok (.iconst 1, 1) := by decide +kernel
theorem d_Rd_readClause_131 : decode prog_5_method_9_code 131 = .ok (.ireturn, 1) := by decide +kernel
theorem d_Rd_readClause_110 : decode prog_5_method_9_code 110 = .ok (.ifCond .ne 5, 3) := by decide +kernel
theorem d_Rd_readClause_101 : decode prog_5_method_9_code 101 = .ok (.ifCond .eq 12, 3) := by decide +kernel
theorem d_Rd_readClause_93 : decode prog_5_method_9_code 93 = .ok (.ifCond .eq 20, 3) := by decide +kernel
theorem d_Rd_readClause_62 : decode prog_5_method_9_code 62 = .ok (.aload_n 0, 1) := by decide +kernel
theorem d_Rd_readClause_63 : decode prog_5_method_9_code 63 = .ok (.iconst 0, 1) := by decide +kernel
theorem d_Rd_readClause_64 : decode prog_5_method_9_code 64 = .ok (.invokevirtual 87, 3) := by decide +kernel
theorem d_Rd_readClause_72 : decode prog_5_method_9_code 72 = .ok (.aload_n 0, 1) := by decide +kernel
theorem d_Rd_readClause_73 : decode prog_5_method_9_code 73 = .ok (.getfield 29, 3) := by decide +kernel
theorem d_Rd_readClause_76 : decode prog_5_method_9_code 76 = .ok (.iconst 0, 1) := by decide +kernel
theorem d_Rd_readClause_77 : decode prog_5_method_9_code 77 = .ok (.invokevirtual 90, 3) := by decide +kernel
theorem d_Rd_readClause_70 : decode prog_5_method_9_code 70 = .ok (.iconst 0, 1) := by decide +kernel
theorem d_Rd_readClause_71 : decode prog_5_method_9_code 71 = .ok (.ireturn, 1) := by decide +kernel
theorem d_Rd_readClause_67 : decode prog_5_method_9_code 67 = .ok (.ifCond .ne 5, 3) := by decide +kernel
theorem d_Rd_readClause_59 : decode prog_5_method_9_code 59 = .ok (.if_icmp .eq 21, 3) := by decide +kernel
theorem d_Rd_readClause_27 : decode prog_5_method_9_code 27 = .ok (.aload_n 0, 1) := by decide +kernel
theorem d_Rd_readClause_28 : decode prog_5_method_9_code 28 = .ok (.iconst 4, 1) := by decide +kernel
theorem d_Rd_readClause_29 : decode prog_5_method_9_code 29 = .ok (.invokevirtual 66, 3) := by decide +kernel
theorem d_Rd_readClause_32 : decode prog_5_method_9_code 32 = .ok (.ireturn, 1) := by decide +kernel
theorem d_Rd_readClause_24 : decode prog_5_method_9_code 24 = .ok (.if_icmp .lt 9, 3) := by decide +kernel
theorem d_Rd_readClause_9 : decode prog_5_method_9_code 9 = .ok (.aload_n 0, 1) := by decide +kernel
theorem d_Rd_readClause_10 : decode prog_5_method_9_code 10 = .ok (.iconst 1, 1) := by decide +kernel
theorem d_Rd_readClause_11 : decode prog_5_method_9_code 11 = .ok (.invokevirtual 66, 3) := by decide +kernel
theorem d_Rd_readClause_14 : decode prog_5_method_9_code 14 = .ok (.ireturn, 1) := by decide +kernel
theorem d_Rd_readClause_6 : decode prog_5_method_9_code 6 = .ok (.ifCond .ne 9, 3) := by decide +kernel
def f_Rd_readClause (N : Nat) (σ : Mem) : Option (Int32 × Mem) :=
  bnd1 (f_Rd_isOneOf_s0 N σ) fun r3 =>
  if r3 = 0 then
    (bnd2 (f_Rd_fail σ 1) fun r11 σ11 =>
    grd (decide (r11 &&& 1 = r11)) (some (r11, σ11)))
  else
    (bnd1 (f_La_clauses_b σ) fun r19 =>
    if r19 < 16 then
      (bnd1 (f_Rd_sign σ) fun r34 =>
      letv (sI σ 17 4 ((mI σ 17 4) + 1)) fun σ45 =>
      bnd1 (f_La_beginClause_b σ45 r34) fun σ53 =>
      if r34 = 117 then
        (bnd1 (f_La_beginCondition_b σ53) fun σ84 =>
        bnd2 (f_Rd_step σ84 40) fun r90 σ90 =>
        if r90 = 0 then
          (some (0, σ90))
        else
          (bnd2 (fr_Rd_readParts N σ90 1) fun r98 σ98 =>
          if r98 = 0 then
            (some (0, σ98))
          else
            (bnd2 (f_Rd_step σ98 41) fun r107 σ107 =>
            if r107 = 0 then
              (some (0, σ107))
            else
              (bnd1 (f_La_put_b σ107 0) fun σ120 =>
              bnd1 (f_La_endClause_b σ120) fun σ127 =>
              some (1, σ127)))))
      else
        (bnd2 (fr_Rd_readSum N σ53 0) fun r64 σ64 =>
        if r64 = 0 then
          (some (0, σ64))
        else
          (bnd1 (f_La_put_b σ64 0) fun σ77 =>
          bnd1 (f_La_beginCondition_b σ77) fun σ84 =>
          bnd2 (f_Rd_step σ84 40) fun r90 σ90 =>
          if r90 = 0 then
            (some (0, σ90))
          else
            (bnd2 (fr_Rd_readParts N σ90 1) fun r98 σ98 =>
            if r98 = 0 then
              (some (0, σ98))
            else
              (bnd2 (f_Rd_step σ98 41) fun r107 σ107 =>
              if r107 = 0 then
                (some (0, σ107))
              else
                (bnd1 (f_La_put_b σ107 0) fun σ120 =>
                bnd1 (f_La_endClause_b σ120) fun σ127 =>
                some (1, σ127)))))))
    else
      (bnd2 (f_Rd_fail σ 4) fun r29 σ29 =>
      grd (decide (r29 &&& 1 = r29)) (some (r29, σ29))))
set_option maxHeartbeats 4000000 in
set_option maxRecDepth 20000 in
theorem c_Rd_readClause (Z : ZX) {N : Nat} {σ : Mem} {r : Int32} {σ' : Mem} (h : f_Rd_readClause N σ = some (r, σ')) : CI Z 45 m_Rd_readClause [rf Z 17] σ r σ' := by
  refine Ct.of (by decide +kernel) (Nat.le_of_ble_eq_true rfl) (fun Y => ?_)
  show V (mkB Z) Y m_Rd_readClause 45 (QP (mkB Z) Y nC 0 0 (fun v t => v = some (.int r) ∧ t = σ')) 0 0 nC σ 0 [(0, rf Z 17)] []
  unfold f_Rd_readClause at h
  refine V.aload_n d_Rd_readClause_0 rfl 0 rfl ?_
  refine V.ldcS 0 (by decide) rfl rfl d_Rd_readClause_1 ?_
  obtain ⟨r3, h1, h⟩ := bnd1_e h
  refine V.vI (as := [.ref (bK (mkB Z) 0)]) (st := []) (c_Rd_isOneOf_s0 Z h1) k_Rd_isOneOf lk_Rd_79 (by decide) rfl (by decide) ly_17 ok_Rd.1 rfl (Nat.le_of_ble_eq_true rfl) d_Rd_readClause_3 ?_
  refine V.if_ne (tgt := 15) d_Rd_readClause_6 (by decide) (fun hc6 => ?_) (fun hc6 => ?_)
  · replace h := ite_f hc6 h
    refine V.aload_n d_Rd_readClause_15 rfl 0 rfl ?_
    refine V.getR (r := 10) ok_Rd fl_Rd_29 (by decide) (by decide) ly_17 rfl d_Rd_readClause_16 ?_
    obtain ⟨r19, h1, h⟩ := bnd1_e h
    refine V.vI (as := []) (st := []) (c_La_clauses_b Z h1) k_La_clauses lk_Rd_54 (by decide) rfl (by decide) ly_10 ok_La.1 rfl (Nat.le_of_ble_eq_true rfl) d_Rd_readClause_19 ?_
    refine V.bipush (v := 16) d_Rd_readClause_22 (by decide) ?_
    refine V.icmp_lt (tgt := 33) d_Rd_readClause_24 (by decide) (fun hc24 => ?_) (fun hc24 => ?_)
    · replace h := ite_t hc24 h
      refine V.aload_n d_Rd_readClause_33 rfl 0 rfl ?_
      obtain ⟨r34, h1, h⟩ := bnd1_e h
      refine V.vI (as := []) (st := []) (c_Rd_sign Z h1) k_Rd_sign lk_Rd_58 (by decide) rfl (by decide) ly_17 ok_Rd.1 rfl (Nat.le_of_ble_eq_true rfl) d_Rd_readClause_34 ?_
      refine V.istore_n (lv' := [(1, .int r34), (0, rf Z 17)]) d_Rd_readClause_37 rfl (by decide) rfl ?_
      refine V.aload_n d_Rd_readClause_38 rfl 1 rfl ?_
      refine V.dup d_Rd_readClause_39 rfl ?_
      refine V.getI ok_Rd fl_Rd_19 (by decide) (by decide) ly_17 rfl d_Rd_readClause_40 ?_
      refine V.iconst (v := 1) d_Rd_readClause_43 (by decide) ?_
      refine V.iadd d_Rd_readClause_44 ?_
      obtain ⟨σ45, e_σ45, h⟩ := letv_e h
      refine V.putI ok_Rd fl_Rd_19 (by decide) (by decide) ly_17 rfl rfl rfl rfl d_Rd_readClause_45 (V.mem e_σ45 ?_)
      refine V.aload_n d_Rd_readClause_48 rfl 1 rfl ?_
      refine V.getR (r := 10) ok_Rd fl_Rd_29 (by decide) (by decide) ly_17 rfl d_Rd_readClause_49 ?_
      refine V.iload_n d_Rd_readClause_52 rfl 0 rfl ?_
      obtain ⟨σ53, h1, h⟩ := bnd1_e h
      refine V.vN (as := [.int r34]) (st := []) (c_La_beginClause_b Z h1) k_La_beginClause lk_Rd_83 (by decide) rfl (by decide) ly_10 ok_La.1 rfl (Nat.le_of_ble_eq_true rfl) d_Rd_readClause_53 ?_
      refine V.iload_n d_Rd_readClause_56 rfl 0 rfl ?_
      refine V.bipush (v := 117) d_Rd_readClause_57 (by decide) ?_
      refine V.icmp_eq (tgt := 80) d_Rd_readClause_59 (by decide) (fun hc59 => ?_) (fun hc59 => ?_)
      · replace h := ite_t hc59 h
        refine V.aload_n d_Rd_readClause_80 rfl 1 rfl ?_
        refine V.getR (r := 10) ok_Rd fl_Rd_29 (by decide) (by decide) ly_17 rfl d_Rd_readClause_81 ?_
        obtain ⟨σ84, h1, h⟩ := bnd1_e h
        refine V.vN (as := []) (st := []) (c_La_beginCondition_b Z h1) k_La_beginCondition lk_Rd_93 (by decide) rfl (by decide) ly_10 ok_La.1 rfl (Nat.le_of_ble_eq_true rfl) d_Rd_readClause_84 ?_
        refine V.aload_n d_Rd_readClause_87 rfl 1 rfl ?_
        refine V.bipush (v := 40) d_Rd_readClause_88 (by decide) ?_
        obtain ⟨r90, σ90, h1, h⟩ := bnd2_e h
        refine V.vI (as := [.int 40]) (st := []) (c_Rd_step Z h1) k_Rd_step lk_Rd_73 (by decide) rfl (by decide) ly_17 ok_Rd.1 rfl (Nat.le_of_ble_eq_true rfl) d_Rd_readClause_90 ?_
        refine V.if_eq (tgt := 113) d_Rd_readClause_93 (by decide) (fun hc93 => ?_) (fun hc93 => ?_)
        · replace h := ite_t hc93 h
          refine V.iconst (v := 0) d_Rd_readClause_113 (by decide) ?_
          cases h
          exact V.zret rfl rfl d_Rd_readClause_114 ⟨rfl, rfl⟩
        · replace h := ite_f hc93 h
          refine V.aload_n d_Rd_readClause_96 rfl 1 rfl ?_
          refine V.iconst (v := 1) d_Rd_readClause_97 (by decide) ?_
          obtain ⟨r98, σ98, h1, h⟩ := bnd2_e h
          refine V.vI (as := [.int 1]) (st := []) (cr_Rd_readParts Z h1) k_Rd_readParts lk_Rd_96 (by decide) rfl (by decide) ly_17 ok_Rd.1 rfl (Nat.le_of_ble_eq_true rfl) d_Rd_readClause_98 ?_
          refine V.if_eq (tgt := 113) d_Rd_readClause_101 (by decide) (fun hc101 => ?_) (fun hc101 => ?_)
          · replace h := ite_t hc101 h
            refine V.iconst (v := 0) d_Rd_readClause_113 (by decide) ?_
            cases h
            exact V.zret rfl rfl d_Rd_readClause_114 ⟨rfl, rfl⟩
          · replace h := ite_f hc101 h
            refine V.aload_n d_Rd_readClause_104 rfl 1 rfl ?_
            refine V.bipush (v := 41) d_Rd_readClause_105 (by decide) ?_
            obtain ⟨r107, σ107, h1, h⟩ := bnd2_e h
            refine V.vI (as := [.int 41]) (st := []) (c_Rd_step Z h1) k_Rd_step lk_Rd_73 (by decide) rfl (by decide) ly_17 ok_Rd.1 rfl (Nat.le_of_ble_eq_true rfl) d_Rd_readClause_107 ?_
            refine V.if_ne (tgt := 115) d_Rd_readClause_110 (by decide) (fun hc110 => ?_) (fun hc110 => ?_)
            · replace h := ite_f hc110 h
              refine V.aload_n d_Rd_readClause_115 rfl 1 rfl ?_
              refine V.getR (r := 10) ok_Rd fl_Rd_29 (by decide) (by decide) ly_17 rfl d_Rd_readClause_116 ?_
              refine V.iconst (v := 0) d_Rd_readClause_119 (by decide) ?_
              obtain ⟨σ120, h1, h⟩ := bnd1_e h
              refine V.vN (as := [.int 0]) (st := []) (c_La_put_b Z h1) k_La_put lk_Rd_90 (by decide) rfl (by decide) ly_10 ok_La.1 rfl (Nat.le_of_ble_eq_true rfl) d_Rd_readClause_120 ?_
              refine V.aload_n d_Rd_readClause_123 rfl 1 rfl ?_
              refine V.getR (r := 10) ok_Rd fl_Rd_29 (by decide) (by decide) ly_17 rfl d_Rd_readClause_124 ?_
              obtain ⟨σ127, h1, h⟩ := bnd1_e h
              refine V.vN (as := []) (st := []) (c_La_endClause_b Z h1) k_La_endClause lk_Rd_99 (by decide) rfl (by decide) ly_10 ok_La.1 rfl (Nat.le_of_ble_eq_true rfl) d_Rd_readClause_127 ?_
              refine V.iconst (v := 1) d_Rd_readClause_130 (by decide) ?_
              cases h
              exact V.zret rfl rfl d_Rd_readClause_131 ⟨rfl, rfl⟩
            · replace h := ite_t hc110 h
              refine V.iconst (v := 0) d_Rd_readClause_113 (by decide) ?_
              cases h
              exact V.zret rfl rfl d_Rd_readClause_114 ⟨rfl, rfl⟩
      · replace h := ite_f hc59 h
        refine V.aload_n d_Rd_readClause_62 rfl 1 rfl ?_
        refine V.iconst (v := 0) d_Rd_readClause_63 (by decide) ?_
        obtain ⟨r64, σ64, h1, h⟩ := bnd2_e h
        refine V.vI (as := [.int 0]) (st := []) (cr_Rd_readSum Z h1) k_Rd_readSum lk_Rd_87 (by decide) rfl (by decide) ly_17 ok_Rd.1 rfl (Nat.le_of_ble_eq_true rfl) d_Rd_readClause_64 ?_
        refine V.if_ne (tgt := 72) d_Rd_readClause_67 (by decide) (fun hc67 => ?_) (fun hc67 => ?_)
        · replace h := ite_f hc67 h
          refine V.aload_n d_Rd_readClause_72 rfl 1 rfl ?_
          refine V.getR (r := 10) ok_Rd fl_Rd_29 (by decide) (by decide) ly_17 rfl d_Rd_readClause_73 ?_
          refine V.iconst (v := 0) d_Rd_readClause_76 (by decide) ?_
          obtain ⟨σ77, h1, h⟩ := bnd1_e h
          refine V.vN (as := [.int 0]) (st := []) (c_La_put_b Z h1) k_La_put lk_Rd_90 (by decide) rfl (by decide) ly_10 ok_La.1 rfl (Nat.le_of_ble_eq_true rfl) d_Rd_readClause_77 ?_
          refine V.aload_n d_Rd_readClause_80 rfl 1 rfl ?_
          refine V.getR (r := 10) ok_Rd fl_Rd_29 (by decide) (by decide) ly_17 rfl d_Rd_readClause_81 ?_
          obtain ⟨σ84, h1, h⟩ := bnd1_e h
          refine V.vN (as := []) (st := []) (c_La_beginCondition_b Z h1) k_La_beginCondition lk_Rd_93 (by decide) rfl (by decide) ly_10 ok_La.1 rfl (Nat.le_of_ble_eq_true rfl) d_Rd_readClause_84 ?_
          refine V.aload_n d_Rd_readClause_87 rfl 1 rfl ?_
          refine V.bipush (v := 40) d_Rd_readClause_88 (by decide) ?_
          obtain ⟨r90, σ90, h1, h⟩ := bnd2_e h
          refine V.vI (as := [.int 40]) (st := []) (c_Rd_step Z h1) k_Rd_step lk_Rd_73 (by decide) rfl (by decide) ly_17 ok_Rd.1 rfl (Nat.le_of_ble_eq_true rfl) d_Rd_readClause_90 ?_
          refine V.if_eq (tgt := 113) d_Rd_readClause_93 (by decide) (fun hc93 => ?_) (fun hc93 => ?_)
          · replace h := ite_t hc93 h
            refine V.iconst (v := 0) d_Rd_readClause_113 (by decide) ?_
            cases h
            exact V.zret rfl rfl d_Rd_readClause_114 ⟨rfl, rfl⟩
          · replace h := ite_f hc93 h
            refine V.aload_n d_Rd_readClause_96 rfl 1 rfl ?_
            refine V.iconst (v := 1) d_Rd_readClause_97 (by decide) ?_
            obtain ⟨r98, σ98, h1, h⟩ := bnd2_e h
            refine V.vI (as := [.int 1]) (st := []) (cr_Rd_readParts Z h1) k_Rd_readParts lk_Rd_96 (by decide) rfl (by decide) ly_17 ok_Rd.1 rfl (Nat.le_of_ble_eq_true rfl) d_Rd_readClause_98 ?_
            refine V.if_eq (tgt := 113) d_Rd_readClause_101 (by decide) (fun hc101 => ?_) (fun hc101 => ?_)
            · replace h := ite_t hc101 h
              refine V.iconst (v := 0) d_Rd_readClause_113 (by decide) ?_
              cases h
              exact V.zret rfl rfl d_Rd_readClause_114 ⟨rfl, rfl⟩
            · replace h := ite_f hc101 h
              refine V.aload_n d_Rd_readClause_104 rfl 1 rfl ?_
              refine V.bipush (v := 41) d_Rd_readClause_105 (by decide) ?_
              obtain ⟨r107, σ107, h1, h⟩ := bnd2_e h
              refine V.vI (as := [.int 41]) (st := []) (c_Rd_step Z h1) k_Rd_step lk_Rd_73 (by decide) rfl (by decide) ly_17 ok_Rd.1 rfl (Nat.le_of_ble_eq_true rfl) d_Rd_readClause_107 ?_
              refine V.if_ne (tgt := 115) d_Rd_readClause_110 (by decide) (fun hc110 => ?_) (fun hc110 => ?_)
              · replace h := ite_f hc110 h
                refine V.aload_n d_Rd_readClause_115 rfl 1 rfl ?_
                refine V.getR (r := 10) ok_Rd fl_Rd_29 (by decide) (by decide) ly_17 rfl d_Rd_readClause_116 ?_
                refine V.iconst (v := 0) d_Rd_readClause_119 (by decide) ?_
                obtain ⟨σ120, h1, h⟩ := bnd1_e h
                refine V.vN (as := [.int 0]) (st := []) (c_La_put_b Z h1) k_La_put lk_Rd_90 (by decide) rfl (by decide) ly_10 ok_La.1 rfl (Nat.le_of_ble_eq_true rfl) d_Rd_readClause_120 ?_
                refine V.aload_n d_Rd_readClause_123 rfl 1 rfl ?_
                refine V.getR (r := 10) ok_Rd fl_Rd_29 (by decide) (by decide) ly_17 rfl d_Rd_readClause_124 ?_
                obtain ⟨σ127, h1, h⟩ := bnd1_e h
                refine V.vN (as := []) (st := []) (c_La_endClause_b Z h1) k_La_endClause lk_Rd_99 (by decide) rfl (by decide) ly_10 ok_La.1 rfl (Nat.le_of_ble_eq_true rfl) d_Rd_readClause_127 ?_
                refine V.iconst (v := 1) d_Rd_readClause_130 (by decide) ?_
                cases h
                exact V.zret rfl rfl d_Rd_readClause_131 ⟨rfl, rfl⟩
              · replace h := ite_t hc110 h
                refine V.iconst (v := 0) d_Rd_readClause_113 (by decide) ?_
                cases h
                exact V.zret rfl rfl d_Rd_readClause_114 ⟨rfl, rfl⟩
        · replace h := ite_t hc67 h
          refine V.iconst (v := 0) d_Rd_readClause_70 (by decide) ?_
          cases h
          exact V.zret rfl rfl d_Rd_readClause_71 ⟨rfl, rfl⟩
    · replace h := ite_f hc24 h
      refine V.aload_n d_Rd_readClause_27 rfl 0 rfl ?_
      refine V.iconst (v := 4) d_Rd_readClause_28 (by decide) ?_
      obtain ⟨r29, σ29, h1, h⟩ := bnd2_e h
      refine V.vI (as := [.int 4]) (st := []) (c_Rd_fail Z h1) k_Rd_fail lk_Rd_66 (by decide) rfl (by decide) ly_17 ok_Rd.1 rfl (Nat.le_of_ble_eq_true rfl) d_Rd_readClause_29 ?_
      obtain ⟨hz, h⟩ := grd_e h
      have hz := congrArg Value.int (of_decide_eq_true hz)
      cases h
      exact V.zret rfl hz d_Rd_readClause_32 ⟨rfl, rfl⟩
  · replace h := ite_t hc6 h
    refine V.aload_n d_Rd_readClause_9 rfl 0 rfl ?_
    refine V.iconst (v := 1) d_Rd_readClause_10 (by decide) ?_
    obtain ⟨r11, σ11, h1, h⟩ := bnd2_e h
    refine V.vI (as := [.int 1]) (st := []) (c_Rd_fail Z h1) k_Rd_fail lk_Rd_66 (by decide) rfl (by decide) ly_17 ok_Rd.1 rfl (Nat.le_of_ble_eq_true rfl) d_Rd_readClause_11 ?_
    obtain ⟨hz, h⟩ := grd_e h
    have hz := congrArg Value.int (of_decide_eq_true hz)
    cases h
    exact V.zret rfl hz d_Rd_readClause_14 ⟨rfl, rfl⟩
abbrev m_Rd_readClauses : MI := (⟨"ShadeTown$LawReader", "readClauses", "()Z"⟩, prog_5_method_8_code, 2, (Option.some Jvm.ClassFile.FieldType.boolean))
theorem d_Rd_readClauses_0 : decode prog_5_method_8_code 0 = .ok (.iconst 0, 1) := by decide +kernel
theorem d_Rd_readClauses_1 : decode prog_5_method_8_code 1 = .ok (.istore_n 1, 1) := by decide +kernel
theorem d_Rd_readClauses_2 : decode prog_5_method_8_code 2 = .ok (.iload_n 1, 1) := by decide +kernel
theorem d_Rd_readClauses_3 : decode prog_5_method_8_code 3 = .ok (.sipush 240, 3) := by decide +kernel
theorem d_Rd_readClauses_48 : decode prog_5_method_8_code 48 = .ok (.aload_n 0, 1) := by decide +kernel
theorem d_Rd_readClauses_49 : decode prog_5_method_8_code 49 = .ok (.iconst 1, 1) := by decide +kernel
theorem d_Rd_readClauses_50 : decode prog_5_method_8_code 50 = .ok (.invokevirtual 66, 3) := by decide +kernel
theorem d_Rd_readClauses_53 : decode prog_5_method_8_code 53 = .ok (.ireturn, 1) := by decide +kernel
theorem d_Rd_readClauses_9 : decode prog_5_method_8_code 9 = .ok (.aload_n 0, 1) := by decide +kernel
theorem d_Rd_readClauses_10 : decode prog_5_method_8_code 10 = .ok (.invokevirtual 70, 3) := by decide +kernel
theorem k_Rd_readClause : MOk m_Rd_readClause 0 ∧ IOk m_Rd_readClause := ⟨⟨atG 501 (by decide +kernel) rfl, atG 114 (by decide +kernel) rfl, ⟨by decide, by decide⟩, by decide +kernel, by decide⟩, atG 500 (by decide +kernel) rfl, atG 1 (by decide +kernel) rfl⟩
theorem lk_Rd_70 : Cond.methodLink "ShadeTown$LawReader" 70 ⟨"ShadeTown$LawReader", "readClause", "()Z"⟩ ∈ tblG := atG 498 (by decide +kernel) rfl
theorem d_Rd_readClauses_18 : decode prog_5_method_8_code 18 = .ok (.aload_n 0, 1) := by decide +kernel
theorem d_Rd_readClauses_19 : decode prog_5_method_8_code 19 = .ok (.getfield 19, 3) := by decide +kernel
theorem d_Rd_readClauses_22 : decode prog_5_method_8_code 22 = .ok (.aload_n 0, 1) := by decide +kernel
theorem d_Rd_readClauses_23 : decode prog_5_method_8_code 23 = .ok (.getfield 15, 3) := by decide +kernel
theorem d_Rd_readClauses_31 : decode prog_5_method_8_code 31 = .ok (.aload_n 0, 1) := by decide +kernel
theorem d_Rd_readClauses_32 : decode prog_5_method_8_code 32 = .ok (.bipush 59, 2) := by decide +kernel
theorem d_Rd_readClauses_34 : decode prog_5_method_8_code 34 = .ok (.invokevirtual 73, 3) := by decide +kernel
theorem d_Rd_readClauses_42 : decode prog_5_method_8_code 42 = .ok (.iinc 1 1, 3) := by decide +kernel
theorem d_Rd_readClauses_45 : decode prog_5_method_8_code 45 = .ok (.goto (-43), 3) := by decide +kernel
theorem d_Rd_readClauses_40 : decode prog_5_method_8_code 40 = .ok (.iconst 0, 1) := by decide +kernel
theorem d_Rd_readClauses_41 : decode prog_5_method_8_code 41 = .ok (.ireturn, 1) := by decide +kernel
theorem d_Rd_readClauses_37 : decode prog_5_method_8_code 37 = .ok (.ifCond .ne 5, 3) := by decide +kernel
theorem d_Rd_readClauses_29 : decode prog_5_method_8_code 29 = .ok (.iconst 1, 1) := by decide +kernel
theorem d_Rd_readClauses_30 : decode prog_5_method_8_code 30 = .ok (.ireturn, 1) := by decide +kernel
theorem d_Rd_readClauses_26 : decode prog_5_method_8_code 26 = .ok (.if_icmp .ne 5, 3) := by decide +kernel
theorem d_Rd_readClauses_16 : decode prog_5_method_8_code 16 = .ok (.iconst 0, 1) := by decide +kernel
theorem d_Rd_readClauses_17 : decode prog_5_method_8_code 17 = .ok (.ireturn, 1) := by decide +kernel
theorem d_Rd_readClauses_13 : decode prog_5_method_8_code 13 = .ok (.ifCond .ne 5, 3) := by decide +kernel
theorem d_Rd_readClauses_6 : decode prog_5_method_8_code 6 = .ok (.if_icmp .gt 42, 3) := by decide +kernel
def B_Rd_readClauses_l2 (N : Nat) (rec : Int32 → Mem → Option (Int32 × Mem)) (x1 : Int32) (σ : Mem) : Option (Int32 × Mem) :=
  if 240 < x1 then
    (bnd2 (f_Rd_fail σ 1) fun r50 σ50 =>
    grd (decide (r50 &&& 1 = r50)) (some (r50, σ50)))
  else
    (bnd2 (f_Rd_readClause N σ) fun r10 σ10 =>
    if r10 = 0 then
      (some (0, σ10))
    else
      (if (mI σ10 17 4) = (mI σ10 17 3) then
        (some (1, σ10))
      else
        (bnd2 (f_Rd_step σ10 59) fun r34 σ34 =>
        if r34 = 0 then
          (some (0, σ34))
        else
          (letv (x1 + 1) fun v42 =>
          rec v42 σ34))))
def L_Rd_readClauses_l2 (N : Nat) : Nat → Int32 → Mem → Option (Int32 × Mem)
  | 0, _, _ => none
  | k + 1, x1, σ => B_Rd_readClauses_l2 N (L_Rd_readClauses_l2 N k) x1 σ
set_option maxHeartbeats 4000000 in
set_option maxRecDepth 20000 in
theorem cL_Rd_readClauses_l2 (Z : ZX) {Y : YX} {post : Option Value → Mem → Prop} {N : Nat} {Good : Int32 × Mem → Prop} (hR : ∀ (v : Int32) (σr : Mem), Good (v, σr) → post (some (.int v)) σr) : ∀ (k : Nat) (x1 : Int32) (σ : Mem) (res : Int32 × Mem), L_Rd_readClauses_l2 N k x1 σ = some res → Good res → V (mkB Z) Y m_Rd_readClauses 46 (QP (mkB Z) Y nC 0 0 post) 0 0 nC σ 2 [(0, rf Z 17), (1, .int x1)] [] := by
  intro k
  induction k with
  | zero => intro x1 σ res h; cases h
  | succ k ih =>
    intro x1 σ res h hg
    replace h : B_Rd_readClauses_l2 N (L_Rd_readClauses_l2 N k) x1 σ = some res := h
    unfold B_Rd_readClauses_l2 at h
    refine V.iload_n d_Rd_readClauses_2 rfl 1 rfl ?_
    refine V.sipush (v := 240) d_Rd_readClauses_3 (by decide) ?_
    refine V.icmp_gt (tgt := 48) d_Rd_readClauses_6 (by decide) (fun hc6 => ?_) (fun hc6 => ?_)
    · replace h := ite_t hc6 h
      refine V.aload_n d_Rd_readClauses_48 rfl 0 rfl ?_
      refine V.iconst (v := 1) d_Rd_readClauses_49 (by decide) ?_
      obtain ⟨r50, σ50, h1, h⟩ := bnd2_e h
      refine V.vI (as := [.int 1]) (st := []) (c_Rd_fail Z h1) k_Rd_fail lk_Rd_66 (by decide) rfl (by decide) ly_17 ok_Rd.1 rfl (Nat.le_of_ble_eq_true rfl) d_Rd_readClauses_50 ?_
      obtain ⟨hz, h⟩ := grd_e h
      have hz := congrArg Value.int (of_decide_eq_true hz)
      cases h
      exact V.zret rfl hz d_Rd_readClauses_53 (hR _ _ hg)
    · replace h := ite_f hc6 h
      refine V.aload_n d_Rd_readClauses_9 rfl 0 rfl ?_
      obtain ⟨r10, σ10, h1, h⟩ := bnd2_e h
      refine V.vI (as := []) (st := []) (c_Rd_readClause Z h1) k_Rd_readClause lk_Rd_70 (by decide) rfl (by decide) ly_17 ok_Rd.1 rfl (Nat.le_of_ble_eq_true rfl) d_Rd_readClauses_10 ?_
      refine V.if_ne (tgt := 18) d_Rd_readClauses_13 (by decide) (fun hc13 => ?_) (fun hc13 => ?_)
      · replace h := ite_f hc13 h
        refine V.aload_n d_Rd_readClauses_18 rfl 0 rfl ?_
        refine V.getI ok_Rd fl_Rd_19 (by decide) (by decide) ly_17 rfl d_Rd_readClauses_19 ?_
        refine V.aload_n d_Rd_readClauses_22 rfl 0 rfl ?_
        refine V.getI ok_Rd fl_Rd_15 (by decide) (by decide) ly_17 rfl d_Rd_readClauses_23 ?_
        refine V.icmp_ne (tgt := 31) d_Rd_readClauses_26 (by decide) (fun hc26 => ?_) (fun hc26 => ?_)
        · replace h := ite_f hc26 h
          refine V.aload_n d_Rd_readClauses_31 rfl 0 rfl ?_
          refine V.bipush (v := 59) d_Rd_readClauses_32 (by decide) ?_
          obtain ⟨r34, σ34, h1, h⟩ := bnd2_e h
          refine V.vI (as := [.int 59]) (st := []) (c_Rd_step Z h1) k_Rd_step lk_Rd_73 (by decide) rfl (by decide) ly_17 ok_Rd.1 rfl (Nat.le_of_ble_eq_true rfl) d_Rd_readClauses_34 ?_
          refine V.if_ne (tgt := 42) d_Rd_readClauses_37 (by decide) (fun hc37 => ?_) (fun hc37 => ?_)
          · replace h := ite_f hc37 h
            obtain ⟨v42, e_v42, h⟩ := letv_e h
            refine V.iinc (v := v42) (lv' := [(1, .int v42), (0, rf Z 17)]) d_Rd_readClauses_42 1 rfl (by rw [e_v42]; rfl) (by decide) rfl ?_
            refine V.goto (tgt := 2) d_Rd_readClauses_45 (by decide) ?_
            exact V.pick [1, 0] rfl (ih _ _ _ h hg)
          · replace h := ite_t hc37 h
            refine V.iconst (v := 0) d_Rd_readClauses_40 (by decide) ?_
            cases h
            exact V.zret rfl rfl d_Rd_readClauses_41 (hR _ _ hg)
        · replace h := ite_t hc26 h
          refine V.iconst (v := 1) d_Rd_readClauses_29 (by decide) ?_
          cases h
          exact V.zret rfl rfl d_Rd_readClauses_30 (hR _ _ hg)
      · replace h := ite_t hc13 h
        refine V.iconst (v := 0) d_Rd_readClauses_16 (by decide) ?_
        cases h
        exact V.zret rfl rfl d_Rd_readClauses_17 (hR _ _ hg)
def f_Rd_readClauses (N : Nat) (σ : Mem) : Option (Int32 × Mem) :=
  L_Rd_readClauses_l2 N N 0 σ
set_option maxHeartbeats 4000000 in
set_option maxRecDepth 20000 in
theorem c_Rd_readClauses (Z : ZX) {N : Nat} {σ : Mem} {r : Int32} {σ' : Mem} (h : f_Rd_readClauses N σ = some (r, σ')) : CI Z 46 m_Rd_readClauses [rf Z 17] σ r σ' := by
  refine Ct.of (by decide +kernel) (Nat.le_of_ble_eq_true rfl) (fun Y => ?_)
  show V (mkB Z) Y m_Rd_readClauses 46 (QP (mkB Z) Y nC 0 0 (fun v t => v = some (.int r) ∧ t = σ')) 0 0 nC σ 0 [(0, rf Z 17)] []
  unfold f_Rd_readClauses at h
  refine V.iconst (v := 0) d_Rd_readClauses_0 (by decide) ?_
  refine V.istore_n (lv' := [(1, .int 0), (0, rf Z 17)]) d_Rd_readClauses_1 rfl (by decide) rfl ?_
  refine V.pick [1, 0] rfl (cL_Rd_readClauses_l2 Z (Good := fun z => z = _) (fun r2v r2m he => ?_) N _ _ _ h rfl)
  · cases he
    exact ⟨rfl, rfl⟩
abbrev m_Rd_readLaw : MI := (⟨"ShadeTown$LawReader", "readLaw", "(I)I"⟩, prog_5_method_2_code, 3, (Option.some Jvm.ClassFile.FieldType.int))
theorem d_Rd_readLaw_0 : decode prog_5_method_2_code 0 = .ok (.aload_n 0, 1) := by decide +kernel
theorem d_Rd_readLaw_1 : decode prog_5_method_2_code 1 = .ok (.iload_n 1, 1) := by decide +kernel
theorem d_Rd_readLaw_2 : decode prog_5_method_2_code 2 = .ok (.sipush 240, 3) := by decide +kernel
theorem d_Rd_readLaw_5 : decode prog_5_method_2_code 5 = .ok (.invokestatic 33, 3) := by decide +kernel
theorem lk_Rd_33 : Cond.methodLink "ShadeTown$LawReader" 33 ⟨"java/lang/Math", "min", "(II)I"⟩ ∈ tblG := atG 483 (by decide +kernel) rfl
theorem d_Rd_readLaw_8 : decode prog_5_method_2_code 8 = .ok (.putfield 15, 3) := by decide +kernel
theorem d_Rd_readLaw_11 : decode prog_5_method_2_code 11 = .ok (.iconst 0, 1) := by decide +kernel
theorem d_Rd_readLaw_12 : decode prog_5_method_2_code 12 = .ok (.istore_n 2, 1) := by decide +kernel
theorem d_Rd_readLaw_13 : decode prog_5_method_2_code 13 = .ok (.iload_n 2, 1) := by decide +kernel
theorem d_Rd_readLaw_14 : decode prog_5_method_2_code 14 = .ok (.aload_n 0, 1) := by decide +kernel
theorem d_Rd_readLaw_15 : decode prog_5_method_2_code 15 = .ok (.getfield 15, 3) := by decide +kernel
theorem d_Rd_readLaw_21 : decode prog_5_method_2_code 21 = .ok (.aload_n 0, 1) := by decide +kernel
theorem d_Rd_readLaw_22 : decode prog_5_method_2_code 22 = .ok (.getfield 9, 3) := by decide +kernel
theorem d_Rd_readLaw_25 : decode prog_5_method_2_code 25 = .ok (.iload_n 2, 1) := by decide +kernel
theorem d_Rd_readLaw_26 : decode prog_5_method_2_code 26 = .ok (.aload_n 0, 1) := by decide +kernel
theorem fl_Rd_25 : FL "ShadeTown$LawReader" 25 T_Rd 0 := atG 191 (by decide +kernel) rfl
theorem d_Rd_readLaw_27 : decode prog_5_method_2_code 27 = .ok (.getfield 25, 3) := by decide +kernel
theorem d_Rd_readLaw_30 : decode prog_5_method_2_code 30 = .ok (.iload_n 2, 1) := by decide +kernel
theorem d_Rd_readLaw_31 : decode prog_5_method_2_code 31 = .ok (.invokevirtual 39, 3) := by decide +kernel
theorem k_Ta_byteAt : MOk m_Ta_byteAt 1 ∧ IOk m_Ta_byteAt := ⟨⟨atG 489 (by decide +kernel) rfl, atG 112 (by decide +kernel) rfl, ⟨by decide, by decide⟩, by decide +kernel, by decide⟩, atG 487 (by decide +kernel) rfl, atG 488 (by decide +kernel) rfl⟩
theorem lk_Rd_39 : Cond.methodLink "ShadeTown$LawReader" 39 ⟨"ShadeTown$Tape", "byteAt", "(I)I"⟩ ∈ tblG := atG 486 (by decide +kernel) rfl
theorem d_Rd_readLaw_34 : decode prog_5_method_2_code 34 = .ok (.iastore, 1) := by decide +kernel
theorem d_Rd_readLaw_35 : decode prog_5_method_2_code 35 = .ok (.iinc 2 1, 3) := by decide +kernel
theorem d_Rd_readLaw_38 : decode prog_5_method_2_code 38 = .ok (.goto (-25), 3) := by decide +kernel
theorem d_Rd_readLaw_18 : decode prog_5_method_2_code 18 = .ok (.if_icmp .ge 23, 3) := by decide +kernel
theorem d_Rd_readLaw_41 : decode prog_5_method_2_code 41 = .ok (.aload_n 0, 1) := by decide +kernel
theorem d_Rd_readLaw_42 : decode prog_5_method_2_code 42 = .ok (.iconst 0, 1) := by decide +kernel
theorem d_Rd_readLaw_43 : decode prog_5_method_2_code 43 = .ok (.putfield 19, 3) := by decide +kernel
theorem d_Rd_readLaw_46 : decode prog_5_method_2_code 46 = .ok (.aload_n 0, 1) := by decide +kernel
theorem d_Rd_readLaw_47 : decode prog_5_method_2_code 47 = .ok (.iconst 0, 1) := by decide +kernel
theorem d_Rd_readLaw_48 : decode prog_5_method_2_code 48 = .ok (.putfield 22, 3) := by decide +kernel
theorem d_Rd_readLaw_51 : decode prog_5_method_2_code 51 = .ok (.aload_n 0, 1) := by decide +kernel
theorem d_Rd_readLaw_52 : decode prog_5_method_2_code 52 = .ok (.getfield 29, 3) := by decide +kernel
theorem d_Rd_readLaw_55 : decode prog_5_method_2_code 55 = .ok (.invokevirtual 45, 3) := by decide +kernel
theorem k_La_clear : MOk m_La_clear 0 ∧ IOk m_La_clear := ⟨⟨atG 493 (by decide +kernel) rfl, atG 113 (by decide +kernel) rfl, ⟨by decide, by decide⟩, by decide +kernel, by decide⟩, atG 491 (by decide +kernel) rfl, atG 492 (by decide +kernel) rfl⟩
theorem lk_Rd_45 : Cond.methodLink "ShadeTown$LawReader" 45 ⟨"ShadeTown$Law", "clear", "()V"⟩ ∈ tblG := atG 490 (by decide +kernel) rfl
theorem d_Rd_readLaw_58 : decode prog_5_method_2_code 58 = .ok (.aload_n 0, 1) := by decide +kernel
theorem d_Rd_readLaw_59 : decode prog_5_method_2_code 59 = .ok (.invokevirtual 50, 3) := by decide +kernel
theorem k_Rd_readClauses : MOk m_Rd_readClauses 0 ∧ IOk m_Rd_readClauses := ⟨⟨atG 497 (by decide +kernel) rfl, atG 114 (by decide +kernel) rfl, ⟨by decide, by decide⟩, by decide +kernel, by decide⟩, atG 496 (by decide +kernel) rfl, atG 0 (by decide +kernel) rfl⟩
theorem lk_Rd_50 : Cond.methodLink "ShadeTown$LawReader" 50 ⟨"ShadeTown$LawReader", "readClauses", "()Z"⟩ ∈ tblG := atG 494 (by decide +kernel) rfl
theorem d_Rd_readLaw_75 : decode prog_5_method_2_code 75 = .ok (.aload_n 0, 1) := by decide +kernel
theorem d_Rd_readLaw_76 : decode prog_5_method_2_code 76 = .ok (.getfield 22, 3) := by decide +kernel
theorem d_Rd_readLaw_79 : decode prog_5_method_2_code 79 = .ok (.ireturn, 1) := by decide +kernel
theorem d_Rd_readLaw_65 : decode prog_5_method_2_code 65 = .ok (.aload_n 0, 1) := by decide +kernel
theorem d_Rd_readLaw_66 : decode prog_5_method_2_code 66 = .ok (.getfield 29, 3) := by decide +kernel
theorem d_Rd_readLaw_69 : decode prog_5_method_2_code 69 = .ok (.invokevirtual 54, 3) := by decide +kernel
theorem d_Rd_readLaw_72 : decode prog_5_method_2_code 72 = .ok (.goto 7, 3) := by decide +kernel
theorem d_Rd_readLaw_62 : decode prog_5_method_2_code 62 = .ok (.ifCond .eq 13, 3) := by decide +kernel
def B_Rd_readLaw_l13 (N : Nat) (rec : Int32 → Mem → Option (Mem)) (x2 : Int32) (σ : Mem) : Option (Mem) :=
  if (mI σ 17 3) ≤ x2 then
    (some σ)
  else
    (bnd1 (f_Ta_byteAt σ x2) fun r31 =>
    grd (inb x2 240) <|
    letv (sI σ 18 (x2.toNatClampNeg) r31) fun σ34 =>
    letv (x2 + 1) fun v35 =>
    rec v35 σ34)
def L_Rd_readLaw_l13 (N : Nat) : Nat → Int32 → Mem → Option (Mem)
  | 0, _, _ => none
  | k + 1, x2, σ => B_Rd_readLaw_l13 N (L_Rd_readLaw_l13 N k) x2 σ
set_option maxHeartbeats 4000000 in
set_option maxRecDepth 20000 in
theorem cL_Rd_readLaw_l13 (Z : ZX) {Y : YX} {Q : State → Prop} {N : Nat} {Good : Mem → Prop} (hE : ∀ (σe : Mem), Good σe → V (mkB Z) Y m_Rd_readLaw 47 Q 0 0 nC σe 41 [(0, rf Z 17)] []) : ∀ (k : Nat) (x2 : Int32) (σ : Mem) (res : Mem), L_Rd_readLaw_l13 N k x2 σ = some res → Good res → V (mkB Z) Y m_Rd_readLaw 47 Q 0 0 nC σ 13 [(0, rf Z 17), (2, .int x2)] [] := by
  intro k
  induction k with
  | zero => intro x2 σ res h; cases h
  | succ k ih =>
    intro x2 σ res h hg
    replace h : B_Rd_readLaw_l13 N (L_Rd_readLaw_l13 N k) x2 σ = some res := h
    unfold B_Rd_readLaw_l13 at h
    refine V.iload_n d_Rd_readLaw_13 rfl 1 rfl ?_
    refine V.aload_n d_Rd_readLaw_14 rfl 0 rfl ?_
    refine V.getI ok_Rd fl_Rd_15 (by decide) (by decide) ly_17 rfl d_Rd_readLaw_15 ?_
    refine V.icmp_ge (tgt := 41) d_Rd_readLaw_18 (by decide) (fun hc18 => ?_) (fun hc18 => ?_)
    · replace h := ite_t hc18 h
      cases h
      exact V.pick [0] rfl (hE _ hg)
    · replace h := ite_f hc18 h
      refine V.aload_n d_Rd_readLaw_21 rfl 0 rfl ?_
      refine V.getR (r := 18) ok_Rd fl_Rd_9 (by decide) (by decide) ly_17 rfl d_Rd_readLaw_22 ?_
      refine V.iload_n d_Rd_readLaw_25 rfl 1 rfl ?_
      refine V.aload_n d_Rd_readLaw_26 rfl 0 rfl ?_
      refine V.getR (r := 1) ok_Rd fl_Rd_25 (by decide) (by decide) ly_17 rfl d_Rd_readLaw_27 ?_
      refine V.iload_n d_Rd_readLaw_30 rfl 1 rfl ?_
      obtain ⟨r31, h1, h⟩ := bnd1_e h
      refine V.vI (as := [.int x2]) (st := [.int x2, rf Z 18]) (c_Ta_byteAt Z h1) k_Ta_byteAt lk_Rd_39 (by decide) rfl (by decide) ly_1 ok_Ta.1 rfl (Nat.le_of_ble_eq_true rfl) d_Rd_readLaw_31 ?_
      obtain ⟨gq, h⟩ := grd_e h
      obtain ⟨σ34, e_σ34, h⟩ := letv_e h
      refine V.wa (by decide) ly_18 (inb_e gq) rfl d_Rd_readLaw_34 e_σ34 ?_
      obtain ⟨v35, e_v35, h⟩ := letv_e h
      refine V.iinc (v := v35) (lv' := [(2, .int v35), (0, rf Z 17)]) d_Rd_readLaw_35 1 rfl (by rw [e_v35]; rfl) (by decide) rfl ?_
      refine V.goto (tgt := 13) d_Rd_readLaw_38 (by decide) ?_
      exact V.pick [1, 0] rfl (ih _ _ _ h hg)
def f_Rd_readLaw (N : Nat) (σ : Mem) (a1 : Int32) : Option (Int32 × Mem) :=
  bnd1 (f_JM_min_7cf53 a1 240) fun r5 =>
  letv (sI σ 17 3 r5) fun σ8 =>
  bnd1 (L_Rd_readLaw_l13 N N 0 σ8) fun σ13_ =>
  letv (sI σ13_ 17 4 0) fun σ43 =>
  letv (sI σ43 17 5 0) fun σ48 =>
  bnd1 (f_La_clear_b σ48) fun σ55 =>
  bnd2 (f_Rd_readClauses N σ55) fun r59 σ59 =>
  if r59 = 0 then
    (some (mI σ59 17 5, σ59))
  else
    (bnd1 (f_La_clauses_b σ59) fun r69 =>
    some (r69, σ59))
set_option maxHeartbeats 4000000 in
set_option maxRecDepth 20000 in
theorem c_Rd_readLaw (Z : ZX) {N : Nat} {σ : Mem} {a1 : Int32} {r : Int32} {σ' : Mem} (h : f_Rd_readLaw N σ a1 = some (r, σ')) : CI Z 47 m_Rd_readLaw [rf Z 17, .int a1] σ r σ' := by
  refine Ct.of (by decide +kernel) (Nat.le_of_ble_eq_true rfl) (fun Y => ?_)
  show V (mkB Z) Y m_Rd_readLaw 47 (QP (mkB Z) Y nC 0 0 (fun v t => v = some (.int r) ∧ t = σ')) 0 0 nC σ 0 [(0, rf Z 17), (1, .int a1)] []
  unfold f_Rd_readLaw at h
  refine V.aload_n d_Rd_readLaw_0 rfl 0 rfl ?_
  refine V.iload_n d_Rd_readLaw_1 rfl 1 rfl ?_
  refine V.sipush (v := 240) d_Rd_readLaw_2 (by decide) ?_
  obtain ⟨r5, h1, h⟩ := bnd1_e h
  refine V.sI (as := [.int a1, .int 240]) (st := [rf Z 17]) (c_JM_min_7cf53 Z h1) k_JM_min_7cf53 lk_Rd_33 (by decide) rfl rfl (Nat.le_of_ble_eq_true rfl) d_Rd_readLaw_5 ?_
  obtain ⟨σ8, e_σ8, h⟩ := letv_e h
  refine V.putI ok_Rd fl_Rd_15 (by decide) (by decide) ly_17 rfl rfl rfl rfl d_Rd_readLaw_8 (V.mem e_σ8 ?_)
  refine V.iconst (v := 0) d_Rd_readLaw_11 (by decide) ?_
  refine V.istore_n (lv' := [(2, .int 0), (0, rf Z 17), (1, .int a1)]) d_Rd_readLaw_12 rfl (by decide) rfl ?_
  obtain ⟨x13_, h1, h⟩ := bnd1_e h
  refine V.pick [1, 0] rfl (cL_Rd_readLaw_l13 Z (Good := fun z => x13_ = z) (fun σ13_ he => ?_) N _ _ _ h1 rfl)
  · rw [he] at h
    refine V.aload_n d_Rd_readLaw_41 rfl 0 rfl ?_
    refine V.iconst (v := 0) d_Rd_readLaw_42 (by decide) ?_
    obtain ⟨σ43, e_σ43, h⟩ := letv_e h
    refine V.putI ok_Rd fl_Rd_19 (by decide) (by decide) ly_17 rfl rfl rfl rfl d_Rd_readLaw_43 (V.mem e_σ43 ?_)
    refine V.aload_n d_Rd_readLaw_46 rfl 0 rfl ?_
    refine V.iconst (v := 0) d_Rd_readLaw_47 (by decide) ?_
    obtain ⟨σ48, e_σ48, h⟩ := letv_e h
    refine V.putI ok_Rd fl_Rd_22 (by decide) (by decide) ly_17 rfl rfl rfl rfl d_Rd_readLaw_48 (V.mem e_σ48 ?_)
    refine V.aload_n d_Rd_readLaw_51 rfl 0 rfl ?_
    refine V.getR (r := 10) ok_Rd fl_Rd_29 (by decide) (by decide) ly_17 rfl d_Rd_readLaw_52 ?_
    obtain ⟨σ55, h1, h⟩ := bnd1_e h
    refine V.vN (as := []) (st := []) (c_La_clear_b Z h1) k_La_clear lk_Rd_45 (by decide) rfl (by decide) ly_10 ok_La.1 rfl (Nat.le_of_ble_eq_true rfl) d_Rd_readLaw_55 ?_
    refine V.aload_n d_Rd_readLaw_58 rfl 0 rfl ?_
    obtain ⟨r59, σ59, h1, h⟩ := bnd2_e h
    refine V.vI (as := []) (st := []) (c_Rd_readClauses Z h1) k_Rd_readClauses lk_Rd_50 (by decide) rfl (by decide) ly_17 ok_Rd.1 rfl (Nat.le_of_ble_eq_true rfl) d_Rd_readLaw_59 ?_
    refine V.if_eq (tgt := 75) d_Rd_readLaw_62 (by decide) (fun hc62 => ?_) (fun hc62 => ?_)
    · replace h := ite_t hc62 h
      refine V.aload_n d_Rd_readLaw_75 rfl 0 rfl ?_
      refine V.getI ok_Rd fl_Rd_22 (by decide) (by decide) ly_17 rfl d_Rd_readLaw_76 ?_
      cases h
      exact V.iret rfl d_Rd_readLaw_79 ⟨rfl, rfl⟩
    · replace h := ite_f hc62 h
      refine V.aload_n d_Rd_readLaw_65 rfl 0 rfl ?_
      refine V.getR (r := 10) ok_Rd fl_Rd_29 (by decide) (by decide) ly_17 rfl d_Rd_readLaw_66 ?_
      obtain ⟨r69, h1, h⟩ := bnd1_e h
      refine V.vI (as := []) (st := []) (c_La_clauses_b Z h1) k_La_clauses lk_Rd_54 (by decide) rfl (by decide) ly_10 ok_La.1 rfl (Nat.le_of_ble_eq_true rfl) d_Rd_readLaw_69 ?_
      refine V.goto (tgt := 79) d_Rd_readLaw_72 (by decide) ?_
      cases h
      exact V.iret rfl d_Rd_readLaw_79 ⟨rfl, rfl⟩
abbrev m_Ta_empty : MI := (⟨"ShadeTown$Tape", "empty", "()V"⟩, prog_8_method_7_code, 1, (Option.none : Option Jvm.ClassFile.FieldType))
theorem d_Ta_empty_0 : decode prog_8_method_7_code 0 = .ok (.aload_n 0, 1) := by decide +kernel
theorem d_Ta_empty_1 : decode prog_8_method_7_code 1 = .ok (.iconst 0, 1) := by decide +kernel
theorem d_Ta_empty_2 : decode prog_8_method_7_code 2 = .ok (.putfield 15, 3) := by decide +kernel
theorem d_Ta_empty_5 : decode prog_8_method_7_code 5 = .ok (.return_, 1) := by decide +kernel
def f_Ta_empty (σ : Mem) : Option (Mem) :=
  letv (sI σ 1 1 0) fun σ2 =>
  some σ2
set_option maxHeartbeats 4000000 in
set_option maxRecDepth 20000 in
theorem c_Ta_empty (Z : ZX) {σ : Mem} {σ' : Mem} (h : f_Ta_empty σ = some σ') : CN Z 0 m_Ta_empty [rf Z 1] σ σ' := by
  refine Ct.of (by decide +kernel) (Nat.le_of_ble_eq_true rfl) (fun Y => ?_)
  show V (mkB Z) Y m_Ta_empty 0 (QP (mkB Z) Y nC 0 0 (fun v t => v = none ∧ t = σ')) 0 0 nC σ 0 [(0, rf Z 1)] []
  unfold f_Ta_empty at h
  refine V.aload_n d_Ta_empty_0 rfl 0 rfl ?_
  refine V.iconst (v := 0) d_Ta_empty_1 (by decide) ?_
  obtain ⟨σ2, e_σ2, h⟩ := letv_e h
  refine V.putI ok_Ta fl_Ta_15 (by decide) (by decide) ly_1 rfl rfl rfl rfl d_Ta_empty_2 (V.mem e_σ2 ?_)
  cases h
  exact V.vret rfl d_Ta_empty_5 ⟨rfl, rfl⟩
abbrev m_La_copyFrom : MI := (⟨"ShadeTown$Law", "copyFrom", "(LShadeTown$Law;)V"⟩, prog_4_method_3_code, 2, (Option.none : Option Jvm.ClassFile.FieldType))
theorem d_La_copyFrom_0 : decode prog_4_method_3_code 0 = .ok (.aload_n 1, 1) := by decide +kernel
theorem d_La_copyFrom_1 : decode prog_4_method_3_code 1 = .ok (.getfield 11, 3) := by decide +kernel
theorem d_La_copyFrom_4 : decode prog_4_method_3_code 4 = .ok (.iconst 0, 1) := by decide +kernel
theorem d_La_copyFrom_5 : decode prog_4_method_3_code 5 = .ok (.aload_n 0, 1) := by decide +kernel
theorem d_La_copyFrom_6 : decode prog_4_method_3_code 6 = .ok (.getfield 11, 3) := by decide +kernel
theorem d_La_copyFrom_9 : decode prog_4_method_3_code 9 = .ok (.iconst 0, 1) := by decide +kernel
theorem d_La_copyFrom_10 : decode prog_4_method_3_code 10 = .ok (.sipush 513, 3) := by decide +kernel
theorem d_La_copyFrom_13 : decode prog_4_method_3_code 13 = .ok (.invokestatic 37, 3) := by decide +kernel
theorem lk_La_37 : Cond.methodLink "ShadeTown$Law" 37 ⟨"java/lang/System", "arraycopy", "(Ljava/lang/Object;ILjava/lang/Object;II)V"⟩ ∈ tblG := atG 680 (by decide +kernel) rfl
theorem d_La_copyFrom_16 : decode prog_4_method_3_code 16 = .ok (.aload_n 1, 1) := by decide +kernel
theorem d_La_copyFrom_17 : decode prog_4_method_3_code 17 = .ok (.getfield 19, 3) := by decide +kernel
theorem d_La_copyFrom_20 : decode prog_4_method_3_code 20 = .ok (.iconst 0, 1) := by decide +kernel
theorem d_La_copyFrom_21 : decode prog_4_method_3_code 21 = .ok (.aload_n 0, 1) := by decide +kernel
theorem d_La_copyFrom_22 : decode prog_4_method_3_code 22 = .ok (.getfield 19, 3) := by decide +kernel
theorem d_La_copyFrom_25 : decode prog_4_method_3_code 25 = .ok (.iconst 0, 1) := by decide +kernel
theorem d_La_copyFrom_26 : decode prog_4_method_3_code 26 = .ok (.bipush 16, 2) := by decide +kernel
theorem d_La_copyFrom_28 : decode prog_4_method_3_code 28 = .ok (.invokestatic 37, 3) := by decide +kernel
theorem d_La_copyFrom_31 : decode prog_4_method_3_code 31 = .ok (.aload_n 1, 1) := by decide +kernel
theorem d_La_copyFrom_32 : decode prog_4_method_3_code 32 = .ok (.getfield 22, 3) := by decide +kernel
theorem d_La_copyFrom_35 : decode prog_4_method_3_code 35 = .ok (.iconst 0, 1) := by decide +kernel
theorem d_La_copyFrom_36 : decode prog_4_method_3_code 36 = .ok (.aload_n 0, 1) := by decide +kernel
theorem d_La_copyFrom_37 : decode prog_4_method_3_code 37 = .ok (.getfield 22, 3) := by decide +kernel
theorem d_La_copyFrom_40 : decode prog_4_method_3_code 40 = .ok (.iconst 0, 1) := by decide +kernel
theorem d_La_copyFrom_41 : decode prog_4_method_3_code 41 = .ok (.bipush 16, 2) := by decide +kernel
theorem d_La_copyFrom_43 : decode prog_4_method_3_code 43 = .ok (.invokestatic 37, 3) := by decide +kernel
theorem d_La_copyFrom_46 : decode prog_4_method_3_code 46 = .ok (.aload_n 1, 1) := by decide +kernel
theorem d_La_copyFrom_47 : decode prog_4_method_3_code 47 = .ok (.getfield 25, 3) := by decide +kernel
theorem d_La_copyFrom_50 : decode prog_4_method_3_code 50 = .ok (.iconst 0, 1) := by decide +kernel
theorem d_La_copyFrom_51 : decode prog_4_method_3_code 51 = .ok (.aload_n 0, 1) := by decide +kernel
theorem d_La_copyFrom_52 : decode prog_4_method_3_code 52 = .ok (.getfield 25, 3) := by decide +kernel
theorem d_La_copyFrom_55 : decode prog_4_method_3_code 55 = .ok (.iconst 0, 1) := by decide +kernel
theorem d_La_copyFrom_56 : decode prog_4_method_3_code 56 = .ok (.bipush 16, 2) := by decide +kernel
theorem d_La_copyFrom_58 : decode prog_4_method_3_code 58 = .ok (.invokestatic 37, 3) := by decide +kernel
theorem d_La_copyFrom_61 : decode prog_4_method_3_code 61 = .ok (.aload_n 0, 1) := by decide +kernel
theorem d_La_copyFrom_62 : decode prog_4_method_3_code 62 = .ok (.aload_n 1, 1) := by decide +kernel
theorem d_La_copyFrom_63 : decode prog_4_method_3_code 63 = .ok (.getfield 15, 3) := by decide +kernel
theorem d_La_copyFrom_66 : decode prog_4_method_3_code 66 = .ok (.putfield 15, 3) := by decide +kernel
theorem d_La_copyFrom_69 : decode prog_4_method_3_code 69 = .ok (.aload_n 0, 1) := by decide +kernel
theorem d_La_copyFrom_70 : decode prog_4_method_3_code 70 = .ok (.aload_n 1, 1) := by decide +kernel
theorem d_La_copyFrom_71 : decode prog_4_method_3_code 71 = .ok (.getfield 28, 3) := by decide +kernel
theorem d_La_copyFrom_74 : decode prog_4_method_3_code 74 = .ok (.putfield 28, 3) := by decide +kernel
theorem d_La_copyFrom_77 : decode prog_4_method_3_code 77 = .ok (.return_, 1) := by decide +kernel
def f_La_copyFrom (σ : Mem) : Option (Mem) :=
  letv (cpI σ 11 4 0 0 513) fun σ13 =>
  letv (cpI σ13 12 5 0 0 16) fun σ28 =>
  letv (cpI σ28 13 6 0 0 16) fun σ43 =>
  letv (cpI σ43 14 7 0 0 16) fun σ58 =>
  letv (sI σ58 3 1 (mI σ58 10 1)) fun σ66 =>
  letv (sI σ66 3 5 (mI σ66 10 5)) fun σ74 =>
  some σ74
set_option maxHeartbeats 4000000 in
set_option maxRecDepth 20000 in
theorem c_La_copyFrom (Z : ZX) {σ : Mem} {σ' : Mem} (h : f_La_copyFrom σ = some σ') : CN Z 1 m_La_copyFrom [rf Z 3, rf Z 10] σ σ' := by
  refine Ct.of (by decide +kernel) (Nat.le_of_ble_eq_true rfl) (fun Y => ?_)
  show V (mkB Z) Y m_La_copyFrom 1 (QP (mkB Z) Y nC 0 0 (fun v t => v = none ∧ t = σ')) 0 0 nC σ 0 [(0, rf Z 3), (1, rf Z 10)] []
  unfold f_La_copyFrom at h
  refine V.aload_n d_La_copyFrom_0 rfl 1 rfl ?_
  refine V.getR (r := 11) ok_La fl_La_11 (by decide) (by decide) ly_10 rfl d_La_copyFrom_1 ?_
  refine V.iconst (v := 0) d_La_copyFrom_4 (by decide) ?_
  refine V.aload_n d_La_copyFrom_5 rfl 0 rfl ?_
  refine V.getR (r := 4) ok_La fl_La_11 (by decide) (by decide) ly_3 rfl d_La_copyFrom_6 ?_
  refine V.iconst (v := 0) d_La_copyFrom_9 (by decide) ?_
  refine V.sipush (v := 513) d_La_copyFrom_10 (by decide) ?_
  obtain ⟨σ13, e_σ13, h⟩ := letv_e h
  refine V.acopy (st := []) (by decide) (by decide) ly_11 ly_4 (by decide) (by decide) (by decide) (by decide) (by decide) lk_La_37 (Nat.le_of_ble_eq_true rfl) (by decide) d_La_copyFrom_13 (V.mem e_σ13 ?_)
  refine V.aload_n d_La_copyFrom_16 rfl 1 rfl ?_
  refine V.getR (r := 12) ok_La fl_La_19 (by decide) (by decide) ly_10 rfl d_La_copyFrom_17 ?_
  refine V.iconst (v := 0) d_La_copyFrom_20 (by decide) ?_
  refine V.aload_n d_La_copyFrom_21 rfl 0 rfl ?_
  refine V.getR (r := 5) ok_La fl_La_19 (by decide) (by decide) ly_3 rfl d_La_copyFrom_22 ?_
  refine V.iconst (v := 0) d_La_copyFrom_25 (by decide) ?_
  refine V.bipush (v := 16) d_La_copyFrom_26 (by decide) ?_
  obtain ⟨σ28, e_σ28, h⟩ := letv_e h
  refine V.acopy (st := []) (by decide) (by decide) ly_12 ly_5 (by decide) (by decide) (by decide) (by decide) (by decide) lk_La_37 (Nat.le_of_ble_eq_true rfl) (by decide) d_La_copyFrom_28 (V.mem e_σ28 ?_)
  refine V.aload_n d_La_copyFrom_31 rfl 1 rfl ?_
  refine V.getR (r := 13) ok_La fl_La_22 (by decide) (by decide) ly_10 rfl d_La_copyFrom_32 ?_
  refine V.iconst (v := 0) d_La_copyFrom_35 (by decide) ?_
  refine V.aload_n d_La_copyFrom_36 rfl 0 rfl ?_
  refine V.getR (r := 6) ok_La fl_La_22 (by decide) (by decide) ly_3 rfl d_La_copyFrom_37 ?_
  refine V.iconst (v := 0) d_La_copyFrom_40 (by decide) ?_
  refine V.bipush (v := 16) d_La_copyFrom_41 (by decide) ?_
  obtain ⟨σ43, e_σ43, h⟩ := letv_e h
  refine V.acopy (st := []) (by decide) (by decide) ly_13 ly_6 (by decide) (by decide) (by decide) (by decide) (by decide) lk_La_37 (Nat.le_of_ble_eq_true rfl) (by decide) d_La_copyFrom_43 (V.mem e_σ43 ?_)
  refine V.aload_n d_La_copyFrom_46 rfl 1 rfl ?_
  refine V.getR (r := 14) ok_La fl_La_25 (by decide) (by decide) ly_10 rfl d_La_copyFrom_47 ?_
  refine V.iconst (v := 0) d_La_copyFrom_50 (by decide) ?_
  refine V.aload_n d_La_copyFrom_51 rfl 0 rfl ?_
  refine V.getR (r := 7) ok_La fl_La_25 (by decide) (by decide) ly_3 rfl d_La_copyFrom_52 ?_
  refine V.iconst (v := 0) d_La_copyFrom_55 (by decide) ?_
  refine V.bipush (v := 16) d_La_copyFrom_56 (by decide) ?_
  obtain ⟨σ58, e_σ58, h⟩ := letv_e h
  refine V.acopy (st := []) (by decide) (by decide) ly_14 ly_7 (by decide) (by decide) (by decide) (by decide) (by decide) lk_La_37 (Nat.le_of_ble_eq_true rfl) (by decide) d_La_copyFrom_58 (V.mem e_σ58 ?_)
  refine V.aload_n d_La_copyFrom_61 rfl 0 rfl ?_
  refine V.aload_n d_La_copyFrom_62 rfl 1 rfl ?_
  refine V.getI ok_La fl_La_15 (by decide) (by decide) ly_10 rfl d_La_copyFrom_63 ?_
  obtain ⟨σ66, e_σ66, h⟩ := letv_e h
  refine V.putI ok_La fl_La_15 (by decide) (by decide) ly_3 rfl rfl rfl rfl d_La_copyFrom_66 (V.mem e_σ66 ?_)
  refine V.aload_n d_La_copyFrom_69 rfl 0 rfl ?_
  refine V.aload_n d_La_copyFrom_70 rfl 1 rfl ?_
  refine V.getI ok_La fl_La_28 (by decide) (by decide) ly_10 rfl d_La_copyFrom_71 ?_
  obtain ⟨σ74, e_σ74, h⟩ := letv_e h
  refine V.putI ok_La fl_La_28 (by decide) (by decide) ly_3 rfl rfl rfl rfl d_La_copyFrom_74 (V.mem e_σ74 ?_)
  cases h
  exact V.vret rfl d_La_copyFrom_77 ⟨rfl, rfl⟩
abbrev m_Da_forgetSky : MI := (⟨"ShadeTown$Day", "forgetSky", "()V"⟩, prog_3_method_2_code, 1, (Option.none : Option Jvm.ClassFile.FieldType))
theorem d_Da_forgetSky_0 : decode prog_3_method_2_code 0 = .ok (.aload_n 0, 1) := by decide +kernel
theorem d_Da_forgetSky_1 : decode prog_3_method_2_code 1 = .ok (.iconst 0, 1) := by decide +kernel
theorem fl_Da_25 : FL "ShadeTown$Day" 25 T_Da 6 := atG 278 (by decide +kernel) rfl
theorem d_Da_forgetSky_2 : decode prog_3_method_2_code 2 = .ok (.putfield 25, 3) := by decide +kernel
theorem d_Da_forgetSky_5 : decode prog_3_method_2_code 5 = .ok (.aload_n 0, 1) := by decide +kernel
theorem d_Da_forgetSky_6 : decode prog_3_method_2_code 6 = .ok (.iconst 0, 1) := by decide +kernel
theorem fl_Da_35 : FL "ShadeTown$Day" 35 T_Da 9 := atG 281 (by decide +kernel) rfl
theorem d_Da_forgetSky_7 : decode prog_3_method_2_code 7 = .ok (.putfield 35, 3) := by decide +kernel
theorem d_Da_forgetSky_10 : decode prog_3_method_2_code 10 = .ok (.return_, 1) := by decide +kernel
def f_Da_forgetSky (σ : Mem) : Option (Mem) :=
  letv (sI σ 33 6 0) fun σ2 =>
  letv (sI σ2 33 9 0) fun σ7 =>
  some σ7
set_option maxHeartbeats 4000000 in
set_option maxRecDepth 20000 in
theorem c_Da_forgetSky (Z : ZX) {σ : Mem} {σ' : Mem} (h : f_Da_forgetSky σ = some σ') : CN Z 0 m_Da_forgetSky [rf Z 33] σ σ' := by
  refine Ct.of (by decide +kernel) (Nat.le_of_ble_eq_true rfl) (fun Y => ?_)
  show V (mkB Z) Y m_Da_forgetSky 0 (QP (mkB Z) Y nC 0 0 (fun v t => v = none ∧ t = σ')) 0 0 nC σ 0 [(0, rf Z 33)] []
  unfold f_Da_forgetSky at h
  refine V.aload_n d_Da_forgetSky_0 rfl 0 rfl ?_
  refine V.iconst (v := 0) d_Da_forgetSky_1 (by decide) ?_
  obtain ⟨σ2, e_σ2, h⟩ := letv_e h
  refine V.putI ok_Da fl_Da_25 (by decide) (by decide) ly_33 rfl rfl rfl rfl d_Da_forgetSky_2 (V.mem e_σ2 ?_)
  refine V.aload_n d_Da_forgetSky_5 rfl 0 rfl ?_
  refine V.iconst (v := 0) d_Da_forgetSky_6 (by decide) ?_
  obtain ⟨σ7, e_σ7, h⟩ := letv_e h
  refine V.putI ok_Da fl_Da_35 (by decide) (by decide) ly_33 rfl rfl rfl rfl d_Da_forgetSky_7 (V.mem e_σ7 ?_)
  cases h
  exact V.vret rfl d_Da_forgetSky_10 ⟨rfl, rfl⟩
abbrev m_Sh_law : MI := (⟨"ShadeTown", "law", "(I)I"⟩, prog_1_method_3_code, 3, (Option.some Jvm.ClassFile.FieldType.int))
theorem d_Sh_law_0 : decode prog_1_method_3_code 0 = .ok (.iload_n 1, 1) := by decide +kernel
theorem d_Sh_law_1 : decode prog_1_method_3_code 1 = .ok (.iconst 1, 1) := by decide +kernel
theorem d_Sh_law_23 : decode prog_1_method_3_code 23 = .ok (.iconst (-1), 1) := by decide +kernel
theorem d_Sh_law_24 : decode prog_1_method_3_code 24 = .ok (.ireturn, 1) := by decide +kernel
theorem d_Sh_law_5 : decode prog_1_method_3_code 5 = .ok (.iload_n 1, 1) := by decide +kernel
theorem d_Sh_law_6 : decode prog_1_method_3_code 6 = .ok (.sipush 240, 3) := by decide +kernel
theorem d_Sh_law_12 : decode prog_1_method_3_code 12 = .ok (.iload_n 1, 1) := by decide +kernel
theorem d_Sh_law_13 : decode prog_1_method_3_code 13 = .ok (.aload_n 0, 1) := by decide +kernel
theorem d_Sh_law_14 : decode prog_1_method_3_code 14 = .ok (.getfield 10, 3) := by decide +kernel
theorem d_Sh_law_17 : decode prog_1_method_3_code 17 = .ok (.invokevirtual 101, 3) := by decide +kernel
theorem d_Sh_law_25 : decode prog_1_method_3_code 25 = .ok (.aload_n 0, 1) := by decide +kernel
theorem fl_Sh_31 : FL "ShadeTown" 31 T_Sh 3 := atG 422 (by decide +kernel) rfl
theorem d_Sh_law_26 : decode prog_1_method_3_code 26 = .ok (.getfield 31, 3) := by decide +kernel
theorem d_Sh_law_29 : decode prog_1_method_3_code 29 = .ok (.iload_n 1, 1) := by decide +kernel
theorem d_Sh_law_30 : decode prog_1_method_3_code 30 = .ok (.invokevirtual 105, 3) := by decide +kernel
theorem k_Rd_readLaw : MOk m_Rd_readLaw 1 ∧ IOk m_Rd_readLaw := ⟨⟨atG 482 (by decide +kernel) rfl, atG 114 (by decide +kernel) rfl, ⟨by decide, by decide⟩, by decide +kernel, by decide⟩, atG 480 (by decide +kernel) rfl, atG 481 (by decide +kernel) rfl⟩
theorem lk_Sh_105 : Cond.methodLink "ShadeTown" 105 ⟨"ShadeTown$LawReader", "readLaw", "(I)I"⟩ ∈ tblG := atG 479 (by decide +kernel) rfl
theorem d_Sh_law_33 : decode prog_1_method_3_code 33 = .ok (.istore_n 2, 1) := by decide +kernel
theorem d_Sh_law_34 : decode prog_1_method_3_code 34 = .ok (.aload_n 0, 1) := by decide +kernel
theorem d_Sh_law_35 : decode prog_1_method_3_code 35 = .ok (.getfield 10, 3) := by decide +kernel
theorem d_Sh_law_38 : decode prog_1_method_3_code 38 = .ok (.invokevirtual 109, 3) := by decide +kernel
theorem k_Ta_empty : MOk m_Ta_empty 0 ∧ IOk m_Ta_empty := ⟨⟨atG 675 (by decide +kernel) rfl, atG 112 (by decide +kernel) rfl, ⟨by decide, by decide⟩, by decide +kernel, by decide⟩, atG 673 (by decide +kernel) rfl, atG 674 (by decide +kernel) rfl⟩
theorem lk_Sh_109 : Cond.methodLink "ShadeTown" 109 ⟨"ShadeTown$Tape", "empty", "()V"⟩ ∈ tblG := atG 672 (by decide +kernel) rfl
theorem d_Sh_law_41 : decode prog_1_method_3_code 41 = .ok (.iload_n 2, 1) := by decide +kernel
theorem d_Sh_law_63 : decode prog_1_method_3_code 63 = .ok (.iload_n 2, 1) := by decide +kernel
theorem d_Sh_law_64 : decode prog_1_method_3_code 64 = .ok (.ireturn, 1) := by decide +kernel
theorem d_Sh_law_45 : decode prog_1_method_3_code 45 = .ok (.aload_n 0, 1) := by decide +kernel
theorem fl_Sh_19 : FL "ShadeTown" 19 T_Sh 1 := atG 420 (by decide +kernel) rfl
theorem d_Sh_law_46 : decode prog_1_method_3_code 46 = .ok (.getfield 19, 3) := by decide +kernel
theorem d_Sh_law_49 : decode prog_1_method_3_code 49 = .ok (.aload_n 0, 1) := by decide +kernel
theorem fl_Sh_23 : FL "ShadeTown" 23 T_Sh 2 := atG 421 (by decide +kernel) rfl
theorem d_Sh_law_50 : decode prog_1_method_3_code 50 = .ok (.getfield 23, 3) := by decide +kernel
theorem d_Sh_law_53 : decode prog_1_method_3_code 53 = .ok (.invokevirtual 112, 3) := by decide +kernel
theorem k_La_copyFrom : MOk m_La_copyFrom 1 ∧ IOk m_La_copyFrom := ⟨⟨atG 679 (by decide +kernel) rfl, atG 113 (by decide +kernel) rfl, ⟨by decide, by decide⟩, by decide +kernel, by decide⟩, atG 677 (by decide +kernel) rfl, atG 678 (by decide +kernel) rfl⟩
theorem lk_Sh_112 : Cond.methodLink "ShadeTown" 112 ⟨"ShadeTown$Law", "copyFrom", "(LShadeTown$Law;)V"⟩ ∈ tblG := atG 676 (by decide +kernel) rfl
theorem d_Sh_law_56 : decode prog_1_method_3_code 56 = .ok (.aload_n 0, 1) := by decide +kernel
theorem fl_Sh_54 : FL "ShadeTown" 54 T_Sh 7 := atG 426 (by decide +kernel) rfl
theorem d_Sh_law_57 : decode prog_1_method_3_code 57 = .ok (.getfield 54, 3) := by decide +kernel
theorem d_Sh_law_60 : decode prog_1_method_3_code 60 = .ok (.invokevirtual 116, 3) := by decide +kernel
theorem k_Da_forgetSky : MOk m_Da_forgetSky 0 ∧ IOk m_Da_forgetSky := ⟨⟨atG 686 (by decide +kernel) rfl, atG 116 (by decide +kernel) rfl, ⟨by decide, by decide⟩, by decide +kernel, by decide⟩, atG 684 (by decide +kernel) rfl, atG 685 (by decide +kernel) rfl⟩
theorem lk_Sh_116 : Cond.methodLink "ShadeTown" 116 ⟨"ShadeTown$Day", "forgetSky", "()V"⟩ ∈ tblG := atG 683 (by decide +kernel) rfl
theorem d_Sh_law_42 : decode prog_1_method_3_code 42 = .ok (.ifCond .lt 21, 3) := by decide +kernel
theorem d_Sh_law_20 : decode prog_1_method_3_code 20 = .ok (.if_icmp .le 5, 3) := by decide +kernel
theorem d_Sh_law_9 : decode prog_1_method_3_code 9 = .ok (.if_icmp .gt 14, 3) := by decide +kernel
theorem d_Sh_law_2 : decode prog_1_method_3_code 2 = .ok (.if_icmp .lt 21, 3) := by decide +kernel
def f_Sh_law (N : Nat) (σ : Mem) (a1 : Int32) : Option (Int32 × Mem) :=
  if a1 < 1 then
    (some ((-1), σ))
  else
    (if 240 < a1 then
      (some ((-1), σ))
    else
      (bnd1 (f_Ta_length σ) fun r17 =>
      if a1 ≤ r17 then
        (bnd2 (f_Rd_readLaw N σ a1) fun r30 σ30 =>
        bnd1 (f_Ta_empty σ30) fun σ38 =>
        if r30 < 0 then
          (some (r30, σ38))
        else
          (bnd1 (f_La_copyFrom σ38) fun σ53 =>
          bnd1 (f_Da_forgetSky σ53) fun σ60 =>
          some (r30, σ60)))
      else
        (some ((-1), σ))))
set_option maxHeartbeats 4000000 in
set_option maxRecDepth 20000 in
theorem c_Sh_law (Z : ZX) {N : Nat} {σ : Mem} {a1 : Int32} {r : Int32} {σ' : Mem} (h : f_Sh_law N σ a1 = some (r, σ')) : CI Z 48 m_Sh_law [rf Z 0, .int a1] σ r σ' := by
  refine Ct.of (by decide +kernel) (Nat.le_of_ble_eq_true rfl) (fun Y => ?_)
  show V (mkB Z) Y m_Sh_law 48 (QP (mkB Z) Y nC 0 0 (fun v t => v = some (.int r) ∧ t = σ')) 0 0 nC σ 0 [(0, rf Z 0), (1, .int a1)] []
  unfold f_Sh_law at h
  refine V.iload_n d_Sh_law_0 rfl 1 rfl ?_
  refine V.iconst (v := 1) d_Sh_law_1 (by decide) ?_
  refine V.icmp_lt (tgt := 23) d_Sh_law_2 (by decide) (fun hc2 => ?_) (fun hc2 => ?_)
  · replace h := ite_t hc2 h
    refine V.iconst (v := (-1)) d_Sh_law_23 (by decide) ?_
    cases h
    exact V.iret rfl d_Sh_law_24 ⟨rfl, rfl⟩
  · replace h := ite_f hc2 h
    refine V.iload_n d_Sh_law_5 rfl 1 rfl ?_
    refine V.sipush (v := 240) d_Sh_law_6 (by decide) ?_
    refine V.icmp_gt (tgt := 23) d_Sh_law_9 (by decide) (fun hc9 => ?_) (fun hc9 => ?_)
    · replace h := ite_t hc9 h
      refine V.iconst (v := (-1)) d_Sh_law_23 (by decide) ?_
      cases h
      exact V.iret rfl d_Sh_law_24 ⟨rfl, rfl⟩
    · replace h := ite_f hc9 h
      refine V.iload_n d_Sh_law_12 rfl 1 rfl ?_
      refine V.aload_n d_Sh_law_13 rfl 0 rfl ?_
      refine V.getR (r := 1) ok_Sh fl_Sh_10 (by decide) (by decide) ly_0 rfl d_Sh_law_14 ?_
      obtain ⟨r17, h1, h⟩ := bnd1_e h
      refine V.vI (as := []) (st := [.int a1]) (c_Ta_length Z h1) k_Ta_length lk_Sh_101 (by decide) rfl (by decide) ly_1 ok_Ta.1 rfl (Nat.le_of_ble_eq_true rfl) d_Sh_law_17 ?_
      refine V.icmp_le (tgt := 25) d_Sh_law_20 (by decide) (fun hc20 => ?_) (fun hc20 => ?_)
      · replace h := ite_t hc20 h
        refine V.aload_n d_Sh_law_25 rfl 0 rfl ?_
        refine V.getR (r := 17) ok_Sh fl_Sh_31 (by decide) (by decide) ly_0 rfl d_Sh_law_26 ?_
        refine V.iload_n d_Sh_law_29 rfl 1 rfl ?_
        obtain ⟨r30, σ30, h1, h⟩ := bnd2_e h
        refine V.vI (as := [.int a1]) (st := []) (c_Rd_readLaw Z h1) k_Rd_readLaw lk_Sh_105 (by decide) rfl (by decide) ly_17 ok_Rd.1 rfl (Nat.le_of_ble_eq_true rfl) d_Sh_law_30 ?_
        refine V.istore_n (lv' := [(2, .int r30), (0, rf Z 0), (1, .int a1)]) d_Sh_law_33 rfl (by decide) rfl ?_
        refine V.aload_n d_Sh_law_34 rfl 1 rfl ?_
        refine V.getR (r := 1) ok_Sh fl_Sh_10 (by decide) (by decide) ly_0 rfl d_Sh_law_35 ?_
        obtain ⟨σ38, h1, h⟩ := bnd1_e h
        refine V.vN (as := []) (st := []) (c_Ta_empty Z h1) k_Ta_empty lk_Sh_109 (by decide) rfl (by decide) ly_1 ok_Ta.1 rfl (Nat.le_of_ble_eq_true rfl) d_Sh_law_38 ?_
        refine V.iload_n d_Sh_law_41 rfl 0 rfl ?_
        refine V.if_lt (tgt := 63) d_Sh_law_42 (by decide) (fun hc42 => ?_) (fun hc42 => ?_)
        · replace h := ite_t hc42 h
          refine V.iload_n d_Sh_law_63 rfl 0 rfl ?_
          cases h
          exact V.iret rfl d_Sh_law_64 ⟨rfl, rfl⟩
        · replace h := ite_f hc42 h
          refine V.aload_n d_Sh_law_45 rfl 1 rfl ?_
          refine V.getR (r := 3) ok_Sh fl_Sh_19 (by decide) (by decide) ly_0 rfl d_Sh_law_46 ?_
          refine V.aload_n d_Sh_law_49 rfl 1 rfl ?_
          refine V.getR (r := 10) ok_Sh fl_Sh_23 (by decide) (by decide) ly_0 rfl d_Sh_law_50 ?_
          obtain ⟨σ53, h1, h⟩ := bnd1_e h
          refine V.vN (as := [rf Z 10]) (st := []) (c_La_copyFrom Z h1) k_La_copyFrom lk_Sh_112 (by decide) rfl (by decide) ly_3 ok_La.1 rfl (Nat.le_of_ble_eq_true rfl) d_Sh_law_53 ?_
          refine V.aload_n d_Sh_law_56 rfl 1 rfl ?_
          refine V.getR (r := 33) ok_Sh fl_Sh_54 (by decide) (by decide) ly_0 rfl d_Sh_law_57 ?_
          obtain ⟨σ60, h1, h⟩ := bnd1_e h
          refine V.vN (as := []) (st := []) (c_Da_forgetSky Z h1) k_Da_forgetSky lk_Sh_116 (by decide) rfl (by decide) ly_33 ok_Da.1 rfl (Nat.le_of_ble_eq_true rfl) d_Sh_law_60 ?_
          refine V.iload_n d_Sh_law_63 rfl 0 rfl ?_
          cases h
          exact V.iret rfl d_Sh_law_64 ⟨rfl, rfl⟩
      · replace h := ite_f hc20 h
        refine V.iconst (v := (-1)) d_Sh_law_23 (by decide) ?_
        cases h
        exact V.iret rfl d_Sh_law_24 ⟨rfl, rfl⟩
abbrev m_Sh_inTown : MI := (⟨"ShadeTown", "inTown", "(II)Z"⟩, prog_1_method_42_code, 2, (Option.some Jvm.ClassFile.FieldType.boolean))
theorem d_Sh_inTown_0 : decode prog_1_method_42_code 0 = .ok (.iload_n 0, 1) := by decide +kernel
theorem d_Sh_inTown_24 : decode prog_1_method_42_code 24 = .ok (.iconst 0, 1) := by decide +kernel
theorem d_Sh_inTown_25 : decode prog_1_method_42_code 25 = .ok (.ireturn, 1) := by decide +kernel
theorem d_Sh_inTown_4 : decode prog_1_method_42_code 4 = .ok (.iload_n 0, 1) := by decide +kernel
theorem d_Sh_inTown_5 : decode prog_1_method_42_code 5 = .ok (.bipush 12, 2) := by decide +kernel
theorem d_Sh_inTown_10 : decode prog_1_method_42_code 10 = .ok (.iload_n 1, 1) := by decide +kernel
theorem d_Sh_inTown_14 : decode prog_1_method_42_code 14 = .ok (.iload_n 1, 1) := by decide +kernel
theorem d_Sh_inTown_15 : decode prog_1_method_42_code 15 = .ok (.bipush 12, 2) := by decide +kernel
theorem d_Sh_inTown_20 : decode prog_1_method_42_code 20 = .ok (.iconst 1, 1) := by decide +kernel
theorem d_Sh_inTown_21 : decode prog_1_method_42_code 21 = .ok (.goto 4, 3) := by decide +kernel
theorem d_Sh_inTown_17 : decode prog_1_method_42_code 17 = .ok (.if_icmp .ge 7, 3) := by decide +kernel
theorem d_Sh_inTown_11 : decode prog_1_method_42_code 11 = .ok (.ifCond .lt 13, 3) := by decide +kernel
theorem d_Sh_inTown_7 : decode prog_1_method_42_code 7 = .ok (.if_icmp .ge 17, 3) := by decide +kernel
theorem d_Sh_inTown_1 : decode prog_1_method_42_code 1 = .ok (.ifCond .lt 23, 3) := by decide +kernel
def f_Sh_inTown (a0 : Int32) (a1 : Int32) : Option (Int32) :=
  if a0 < 0 then
    (some 0)
  else
    (if 12 ≤ a0 then
      (some 0)
    else
      (if a1 < 0 then
        (some 0)
      else
        (if 12 ≤ a1 then
          (some 0)
        else
          (some 1))))
set_option maxHeartbeats 4000000 in
set_option maxRecDepth 20000 in
theorem c_Sh_inTown (Z : ZX) {σ : Mem} {a0 : Int32} {a1 : Int32} {r : Int32} (h : f_Sh_inTown a0 a1 = some r) : CI Z 0 m_Sh_inTown [.int a0, .int a1] σ r σ := by
  refine Ct.of (by decide +kernel) (Nat.le_of_ble_eq_true rfl) (fun Y => ?_)
  show V (mkB Z) Y m_Sh_inTown 0 (QP (mkB Z) Y nC 0 0 (fun v t => v = some (.int r) ∧ t = σ)) 0 0 nC σ 0 [(0, .int a0), (1, .int a1)] []
  unfold f_Sh_inTown at h
  refine V.iload_n d_Sh_inTown_0 rfl 0 rfl ?_
  refine V.if_lt (tgt := 24) d_Sh_inTown_1 (by decide) (fun hc1 => ?_) (fun hc1 => ?_)
  · replace h := ite_t hc1 h
    refine V.iconst (v := 0) d_Sh_inTown_24 (by decide) ?_
    cases h
    exact V.zret rfl rfl d_Sh_inTown_25 ⟨rfl, rfl⟩
  · replace h := ite_f hc1 h
    refine V.iload_n d_Sh_inTown_4 rfl 0 rfl ?_
    refine V.bipush (v := 12) d_Sh_inTown_5 (by decide) ?_
    refine V.icmp_ge (tgt := 24) d_Sh_inTown_7 (by decide) (fun hc7 => ?_) (fun hc7 => ?_)
    · replace h := ite_t hc7 h
      refine V.iconst (v := 0) d_Sh_inTown_24 (by decide) ?_
      cases h
      exact V.zret rfl rfl d_Sh_inTown_25 ⟨rfl, rfl⟩
    · replace h := ite_f hc7 h
      refine V.iload_n d_Sh_inTown_10 rfl 1 rfl ?_
      refine V.if_lt (tgt := 24) d_Sh_inTown_11 (by decide) (fun hc11 => ?_) (fun hc11 => ?_)
      · replace h := ite_t hc11 h
        refine V.iconst (v := 0) d_Sh_inTown_24 (by decide) ?_
        cases h
        exact V.zret rfl rfl d_Sh_inTown_25 ⟨rfl, rfl⟩
      · replace h := ite_f hc11 h
        refine V.iload_n d_Sh_inTown_14 rfl 1 rfl ?_
        refine V.bipush (v := 12) d_Sh_inTown_15 (by decide) ?_
        refine V.icmp_ge (tgt := 24) d_Sh_inTown_17 (by decide) (fun hc17 => ?_) (fun hc17 => ?_)
        · replace h := ite_t hc17 h
          refine V.iconst (v := 0) d_Sh_inTown_24 (by decide) ?_
          cases h
          exact V.zret rfl rfl d_Sh_inTown_25 ⟨rfl, rfl⟩
        · replace h := ite_f hc17 h
          refine V.iconst (v := 1) d_Sh_inTown_20 (by decide) ?_
          refine V.goto (tgt := 25) d_Sh_inTown_21 (by decide) ?_
          cases h
          exact V.zret rfl rfl d_Sh_inTown_25 ⟨rfl, rfl⟩
abbrev m_Sh_isOwner : MI := (⟨"ShadeTown", "isOwner", "(I)Z"⟩, prog_1_method_45_code, 1, (Option.some Jvm.ClassFile.FieldType.boolean))
theorem d_Sh_isOwner_0 : decode prog_1_method_45_code 0 = .ok (.iload_n 0, 1) := by decide +kernel
theorem d_Sh_isOwner_14 : decode prog_1_method_45_code 14 = .ok (.iconst 0, 1) := by decide +kernel
theorem d_Sh_isOwner_15 : decode prog_1_method_45_code 15 = .ok (.ireturn, 1) := by decide +kernel
theorem d_Sh_isOwner_4 : decode prog_1_method_45_code 4 = .ok (.iload_n 0, 1) := by decide +kernel
theorem d_Sh_isOwner_5 : decode prog_1_method_45_code 5 = .ok (.bipush 6, 2) := by decide +kernel
theorem d_Sh_isOwner_10 : decode prog_1_method_45_code 10 = .ok (.iconst 1, 1) := by decide +kernel
theorem d_Sh_isOwner_11 : decode prog_1_method_45_code 11 = .ok (.goto 4, 3) := by decide +kernel
theorem d_Sh_isOwner_7 : decode prog_1_method_45_code 7 = .ok (.if_icmp .ge 7, 3) := by decide +kernel
theorem d_Sh_isOwner_1 : decode prog_1_method_45_code 1 = .ok (.ifCond .lt 13, 3) := by decide +kernel
def f_Sh_isOwner (a0 : Int32) : Option (Int32) :=
  if a0 < 0 then
    (some 0)
  else
    (if 6 ≤ a0 then
      (some 0)
    else
      (some 1))
set_option maxHeartbeats 4000000 in
set_option maxRecDepth 20000 in
theorem c_Sh_isOwner (Z : ZX) {σ : Mem} {a0 : Int32} {r : Int32} (h : f_Sh_isOwner a0 = some r) : CI Z 0 m_Sh_isOwner [.int a0] σ r σ := by
  refine Ct.of (by decide +kernel) (Nat.le_of_ble_eq_true rfl) (fun Y => ?_)
  show V (mkB Z) Y m_Sh_isOwner 0 (QP (mkB Z) Y nC 0 0 (fun v t => v = some (.int r) ∧ t = σ)) 0 0 nC σ 0 [(0, .int a0)] []
  unfold f_Sh_isOwner at h
  refine V.iload_n d_Sh_isOwner_0 rfl 0 rfl ?_
  refine V.if_lt (tgt := 14) d_Sh_isOwner_1 (by decide) (fun hc1 => ?_) (fun hc1 => ?_)
  · replace h := ite_t hc1 h
    refine V.iconst (v := 0) d_Sh_isOwner_14 (by decide) ?_
    cases h
    exact V.zret rfl rfl d_Sh_isOwner_15 ⟨rfl, rfl⟩
  · replace h := ite_f hc1 h
    refine V.iload_n d_Sh_isOwner_4 rfl 0 rfl ?_
    refine V.bipush (v := 6) d_Sh_isOwner_5 (by decide) ?_
    refine V.icmp_ge (tgt := 14) d_Sh_isOwner_7 (by decide) (fun hc7 => ?_) (fun hc7 => ?_)
    · replace h := ite_t hc7 h
      refine V.iconst (v := 0) d_Sh_isOwner_14 (by decide) ?_
      cases h
      exact V.zret rfl rfl d_Sh_isOwner_15 ⟨rfl, rfl⟩
    · replace h := ite_f hc7 h
      refine V.iconst (v := 1) d_Sh_isOwner_10 (by decide) ?_
      refine V.goto (tgt := 15) d_Sh_isOwner_11 (by decide) ?_
      cases h
      exact V.zret rfl rfl d_Sh_isOwner_15 ⟨rfl, rfl⟩
abbrev m_To_isFull : MI := (⟨"ShadeTown$Town", "isFull", "()Z"⟩, prog_9_method_3_code, 1, (Option.some Jvm.ClassFile.FieldType.boolean))
theorem d_To_isFull_0 : decode prog_9_method_3_code 0 = .ok (.aload_n 0, 1) := by decide +kernel
theorem fl_To_30 : FL "ShadeTown$Town" 30 T_To 6 := atG 234 (by decide +kernel) rfl
theorem d_To_isFull_1 : decode prog_9_method_3_code 1 = .ok (.getfield 30, 3) := by decide +kernel
theorem d_To_isFull_4 : decode prog_9_method_3_code 4 = .ok (.bipush 16, 2) := by decide +kernel
theorem d_To_isFull_13 : decode prog_9_method_3_code 13 = .ok (.iconst 0, 1) := by decide +kernel
theorem d_To_isFull_14 : decode prog_9_method_3_code 14 = .ok (.ireturn, 1) := by decide +kernel
theorem d_To_isFull_9 : decode prog_9_method_3_code 9 = .ok (.iconst 1, 1) := by decide +kernel
theorem d_To_isFull_10 : decode prog_9_method_3_code 10 = .ok (.goto 4, 3) := by decide +kernel
theorem d_To_isFull_6 : decode prog_9_method_3_code 6 = .ok (.if_icmp .lt 7, 3) := by decide +kernel
def f_To_isFull (σ : Mem) : Option (Int32) :=
  if (mI σ 19 6) < 16 then
    (some 0)
  else
    (some 1)
set_option maxHeartbeats 4000000 in
set_option maxRecDepth 20000 in
theorem c_To_isFull (Z : ZX) {σ : Mem} {r : Int32} (h : f_To_isFull σ = some r) : CI Z 0 m_To_isFull [rf Z 19] σ r σ := by
  refine Ct.of (by decide +kernel) (Nat.le_of_ble_eq_true rfl) (fun Y => ?_)
  show V (mkB Z) Y m_To_isFull 0 (QP (mkB Z) Y nC 0 0 (fun v t => v = some (.int r) ∧ t = σ)) 0 0 nC σ 0 [(0, rf Z 19)] []
  unfold f_To_isFull at h
  refine V.aload_n d_To_isFull_0 rfl 0 rfl ?_
  refine V.getI ok_To fl_To_30 (by decide) (by decide) ly_19 rfl d_To_isFull_1 ?_
  refine V.bipush (v := 16) d_To_isFull_4 (by decide) ?_
  refine V.icmp_lt (tgt := 13) d_To_isFull_6 (by decide) (fun hc6 => ?_) (fun hc6 => ?_)
  · replace h := ite_t hc6 h
    refine V.iconst (v := 0) d_To_isFull_13 (by decide) ?_
    cases h
    exact V.zret rfl rfl d_To_isFull_14 ⟨rfl, rfl⟩
  · replace h := ite_f hc6 h
    refine V.iconst (v := 1) d_To_isFull_9 (by decide) ?_
    refine V.goto (tgt := 14) d_To_isFull_10 (by decide) ?_
    cases h
    exact V.zret rfl rfl d_To_isFull_14 ⟨rfl, rfl⟩
abbrev m_To_isCaster : MI := (⟨"ShadeTown$Town", "isCaster", "(I)Z"⟩, prog_9_method_4_code, 2, (Option.some Jvm.ClassFile.FieldType.boolean))
theorem d_To_isCaster_0 : decode prog_9_method_4_code 0 = .ok (.iload_n 1, 1) := by decide +kernel
theorem d_To_isCaster_16 : decode prog_9_method_4_code 16 = .ok (.iconst 0, 1) := by decide +kernel
theorem d_To_isCaster_17 : decode prog_9_method_4_code 17 = .ok (.ireturn, 1) := by decide +kernel
theorem d_To_isCaster_4 : decode prog_9_method_4_code 4 = .ok (.iload_n 1, 1) := by decide +kernel
theorem d_To_isCaster_5 : decode prog_9_method_4_code 5 = .ok (.aload_n 0, 1) := by decide +kernel
theorem d_To_isCaster_6 : decode prog_9_method_4_code 6 = .ok (.getfield 30, 3) := by decide +kernel
theorem d_To_isCaster_12 : decode prog_9_method_4_code 12 = .ok (.iconst 1, 1) := by decide +kernel
theorem d_To_isCaster_13 : decode prog_9_method_4_code 13 = .ok (.goto 4, 3) := by decide +kernel
theorem d_To_isCaster_9 : decode prog_9_method_4_code 9 = .ok (.if_icmp .ge 7, 3) := by decide +kernel
theorem d_To_isCaster_1 : decode prog_9_method_4_code 1 = .ok (.ifCond .lt 15, 3) := by decide +kernel
def f_To_isCaster (σ : Mem) (a1 : Int32) : Option (Int32) :=
  if a1 < 0 then
    (some 0)
  else
    (if (mI σ 19 6) ≤ a1 then
      (some 0)
    else
      (some 1))
set_option maxHeartbeats 4000000 in
set_option maxRecDepth 20000 in
theorem c_To_isCaster (Z : ZX) {σ : Mem} {a1 : Int32} {r : Int32} (h : f_To_isCaster σ a1 = some r) : CI Z 0 m_To_isCaster [rf Z 19, .int a1] σ r σ := by
  refine Ct.of (by decide +kernel) (Nat.le_of_ble_eq_true rfl) (fun Y => ?_)
  show V (mkB Z) Y m_To_isCaster 0 (QP (mkB Z) Y nC 0 0 (fun v t => v = some (.int r) ∧ t = σ)) 0 0 nC σ 0 [(0, rf Z 19), (1, .int a1)] []
  unfold f_To_isCaster at h
  refine V.iload_n d_To_isCaster_0 rfl 1 rfl ?_
  refine V.if_lt (tgt := 16) d_To_isCaster_1 (by decide) (fun hc1 => ?_) (fun hc1 => ?_)
  · replace h := ite_t hc1 h
    refine V.iconst (v := 0) d_To_isCaster_16 (by decide) ?_
    cases h
    exact V.zret rfl rfl d_To_isCaster_17 ⟨rfl, rfl⟩
  · replace h := ite_f hc1 h
    refine V.iload_n d_To_isCaster_4 rfl 1 rfl ?_
    refine V.aload_n d_To_isCaster_5 rfl 0 rfl ?_
    refine V.getI ok_To fl_To_30 (by decide) (by decide) ly_19 rfl d_To_isCaster_6 ?_
    refine V.icmp_ge (tgt := 16) d_To_isCaster_9 (by decide) (fun hc9 => ?_) (fun hc9 => ?_)
    · replace h := ite_t hc9 h
      refine V.iconst (v := 0) d_To_isCaster_16 (by decide) ?_
      cases h
      exact V.zret rfl rfl d_To_isCaster_17 ⟨rfl, rfl⟩
    · replace h := ite_f hc9 h
      refine V.iconst (v := 1) d_To_isCaster_12 (by decide) ?_
      refine V.goto (tgt := 17) d_To_isCaster_13 (by decide) ?_
      cases h
      exact V.zret rfl rfl d_To_isCaster_17 ⟨rfl, rfl⟩
abbrev m_To_isStanding : MI := (⟨"ShadeTown$Town", "isStanding", "(I)Z"⟩, prog_9_method_5_code, 2, (Option.some Jvm.ClassFile.FieldType.boolean))
theorem d_To_isStanding_0 : decode prog_9_method_5_code 0 = .ok (.aload_n 0, 1) := by decide +kernel
theorem d_To_isStanding_1 : decode prog_9_method_5_code 1 = .ok (.iload_n 1, 1) := by decide +kernel
theorem d_To_isStanding_2 : decode prog_9_method_5_code 2 = .ok (.invokevirtual 49, 3) := by decide +kernel
theorem k_To_isCaster : MOk m_To_isCaster 1 ∧ IOk m_To_isCaster := ⟨⟨atG 717 (by decide +kernel) rfl, atG 115 (by decide +kernel) rfl, ⟨by decide, by decide⟩, by decide +kernel, by decide⟩, atG 715 (by decide +kernel) rfl, atG 716 (by decide +kernel) rfl⟩
theorem lk_To_49 : Cond.methodLink "ShadeTown$Town" 49 ⟨"ShadeTown$Town", "isCaster", "(I)Z"⟩ ∈ tblG := atG 714 (by decide +kernel) rfl
theorem d_To_isStanding_24 : decode prog_9_method_5_code 24 = .ok (.iconst 0, 1) := by decide +kernel
theorem d_To_isStanding_25 : decode prog_9_method_5_code 25 = .ok (.ireturn, 1) := by decide +kernel
theorem d_To_isStanding_8 : decode prog_9_method_5_code 8 = .ok (.aload_n 0, 1) := by decide +kernel
theorem fl_To_34 : FL "ShadeTown$Town" 34 T_To 7 := atG 237 (by decide +kernel) rfl
theorem d_To_isStanding_9 : decode prog_9_method_5_code 9 = .ok (.getfield 34, 3) := by decide +kernel
theorem d_To_isStanding_12 : decode prog_9_method_5_code 12 = .ok (.iload_n 1, 1) := by decide +kernel
theorem d_To_isStanding_13 : decode prog_9_method_5_code 13 = .ok (.ishr, 1) := by decide +kernel
theorem d_To_isStanding_14 : decode prog_9_method_5_code 14 = .ok (.iconst 1, 1) := by decide +kernel
theorem d_To_isStanding_15 : decode prog_9_method_5_code 15 = .ok (.iand, 1) := by decide +kernel
theorem d_To_isStanding_16 : decode prog_9_method_5_code 16 = .ok (.iconst 1, 1) := by decide +kernel
theorem d_To_isStanding_20 : decode prog_9_method_5_code 20 = .ok (.iconst 1, 1) := by decide +kernel
theorem d_To_isStanding_21 : decode prog_9_method_5_code 21 = .ok (.goto 4, 3) := by decide +kernel
theorem d_To_isStanding_17 : decode prog_9_method_5_code 17 = .ok (.if_icmp .ne 7, 3) := by decide +kernel
theorem d_To_isStanding_5 : decode prog_9_method_5_code 5 = .ok (.ifCond .eq 19, 3) := by decide +kernel
def f_To_isStanding (σ : Mem) (a1 : Int32) : Option (Int32) :=
  bnd1 (f_To_isCaster σ a1) fun r2 =>
  if r2 = 0 then
    (some 0)
  else
    (if ((mI σ 19 7) >>> (a1 &&& 31)) &&& 1 = 1 then
      (some 1)
    else
      (some 0))
set_option maxHeartbeats 4000000 in
set_option maxRecDepth 20000 in
theorem c_To_isStanding (Z : ZX) {σ : Mem} {a1 : Int32} {r : Int32} (h : f_To_isStanding σ a1 = some r) : CI Z 1 m_To_isStanding [rf Z 19, .int a1] σ r σ := by
  refine Ct.of (by decide +kernel) (Nat.le_of_ble_eq_true rfl) (fun Y => ?_)
  show V (mkB Z) Y m_To_isStanding 1 (QP (mkB Z) Y nC 0 0 (fun v t => v = some (.int r) ∧ t = σ)) 0 0 nC σ 0 [(0, rf Z 19), (1, .int a1)] []
  unfold f_To_isStanding at h
  refine V.aload_n d_To_isStanding_0 rfl 0 rfl ?_
  refine V.iload_n d_To_isStanding_1 rfl 1 rfl ?_
  obtain ⟨r2, h1, h⟩ := bnd1_e h
  refine V.vI (as := [.int a1]) (st := []) (c_To_isCaster Z h1) k_To_isCaster lk_To_49 (by decide) rfl (by decide) ly_19 ok_To.1 rfl (Nat.le_of_ble_eq_true rfl) d_To_isStanding_2 ?_
  refine V.if_eq (tgt := 24) d_To_isStanding_5 (by decide) (fun hc5 => ?_) (fun hc5 => ?_)
  · replace h := ite_t hc5 h
    refine V.iconst (v := 0) d_To_isStanding_24 (by decide) ?_
    cases h
    exact V.zret rfl rfl d_To_isStanding_25 ⟨rfl, rfl⟩
  · replace h := ite_f hc5 h
    refine V.aload_n d_To_isStanding_8 rfl 0 rfl ?_
    refine V.getI ok_To fl_To_34 (by decide) (by decide) ly_19 rfl d_To_isStanding_9 ?_
    refine V.iload_n d_To_isStanding_12 rfl 1 rfl ?_
    refine V.ishr d_To_isStanding_13 ?_
    refine V.iconst (v := 1) d_To_isStanding_14 (by decide) ?_
    refine V.iand d_To_isStanding_15 ?_
    refine V.iconst (v := 1) d_To_isStanding_16 (by decide) ?_
    refine V.icmp_ne (tgt := 24) d_To_isStanding_17 (by decide) (fun hc17 => ?_) (fun hc17 => ?_)
    · replace h := ite_f hc17 h
      refine V.iconst (v := 0) d_To_isStanding_24 (by decide) ?_
      cases h
      exact V.zret rfl rfl d_To_isStanding_25 ⟨rfl, rfl⟩
    · replace h := ite_t hc17 h
      refine V.iconst (v := 1) d_To_isStanding_20 (by decide) ?_
      refine V.goto (tgt := 25) d_To_isStanding_21 (by decide) ?_
      cases h
      exact V.zret rfl rfl d_To_isStanding_25 ⟨rfl, rfl⟩
abbrev m_To_isStandingOf : MI := (⟨"ShadeTown$Town", "isStandingOf", "(II)Z"⟩, prog_9_method_6_code, 3, (Option.some Jvm.ClassFile.FieldType.boolean))
theorem d_To_isStandingOf_0 : decode prog_9_method_6_code 0 = .ok (.aload_n 0, 1) := by decide +kernel
theorem d_To_isStandingOf_1 : decode prog_9_method_6_code 1 = .ok (.iload_n 1, 1) := by decide +kernel
theorem d_To_isStandingOf_2 : decode prog_9_method_6_code 2 = .ok (.invokevirtual 53, 3) := by decide +kernel
theorem k_To_isStanding : MOk m_To_isStanding 1 ∧ IOk m_To_isStanding := ⟨⟨atG 713 (by decide +kernel) rfl, atG 115 (by decide +kernel) rfl, ⟨by decide, by decide⟩, by decide +kernel, by decide⟩, atG 711 (by decide +kernel) rfl, atG 712 (by decide +kernel) rfl⟩
theorem lk_To_53 : Cond.methodLink "ShadeTown$Town" 53 ⟨"ShadeTown$Town", "isStanding", "(I)Z"⟩ ∈ tblG := atG 710 (by decide +kernel) rfl
theorem d_To_isStandingOf_22 : decode prog_9_method_6_code 22 = .ok (.iconst 0, 1) := by decide +kernel
theorem d_To_isStandingOf_23 : decode prog_9_method_6_code 23 = .ok (.ireturn, 1) := by decide +kernel
theorem d_To_isStandingOf_8 : decode prog_9_method_6_code 8 = .ok (.aload_n 0, 1) := by decide +kernel
theorem fl_To_11 : FL "ShadeTown$Town" 11 T_To 0 := atG 216 (by decide +kernel) rfl
theorem d_To_isStandingOf_9 : decode prog_9_method_6_code 9 = .ok (.getfield 11, 3) := by decide +kernel
theorem d_To_isStandingOf_12 : decode prog_9_method_6_code 12 = .ok (.iload_n 1, 1) := by decide +kernel
theorem d_To_isStandingOf_13 : decode prog_9_method_6_code 13 = .ok (.iaload, 1) := by decide +kernel
theorem d_To_isStandingOf_14 : decode prog_9_method_6_code 14 = .ok (.iload_n 2, 1) := by decide +kernel
theorem d_To_isStandingOf_18 : decode prog_9_method_6_code 18 = .ok (.iconst 1, 1) := by decide +kernel
theorem d_To_isStandingOf_19 : decode prog_9_method_6_code 19 = .ok (.goto 4, 3) := by decide +kernel
theorem d_To_isStandingOf_15 : decode prog_9_method_6_code 15 = .ok (.if_icmp .ne 7, 3) := by decide +kernel
theorem d_To_isStandingOf_5 : decode prog_9_method_6_code 5 = .ok (.ifCond .eq 17, 3) := by decide +kernel
def f_To_isStandingOf (σ : Mem) (a1 : Int32) (a2 : Int32) : Option (Int32) :=
  bnd1 (f_To_isStanding σ a1) fun r2 =>
  if r2 = 0 then
    (some 0)
  else
    (grd (inb a1 17) <|
    if (mI σ 20 (a1.toNatClampNeg)) = a2 then
      (some 1)
    else
      (some 0))
set_option maxHeartbeats 4000000 in
set_option maxRecDepth 20000 in
theorem c_To_isStandingOf (Z : ZX) {σ : Mem} {a1 : Int32} {a2 : Int32} {r : Int32} (h : f_To_isStandingOf σ a1 a2 = some r) : CI Z 2 m_To_isStandingOf [rf Z 19, .int a1, .int a2] σ r σ := by
  refine Ct.of (by decide +kernel) (Nat.le_of_ble_eq_true rfl) (fun Y => ?_)
  show V (mkB Z) Y m_To_isStandingOf 2 (QP (mkB Z) Y nC 0 0 (fun v t => v = some (.int r) ∧ t = σ)) 0 0 nC σ 0 [(0, rf Z 19), (1, .int a1), (2, .int a2)] []
  unfold f_To_isStandingOf at h
  refine V.aload_n d_To_isStandingOf_0 rfl 0 rfl ?_
  refine V.iload_n d_To_isStandingOf_1 rfl 1 rfl ?_
  obtain ⟨r2, h1, h⟩ := bnd1_e h
  refine V.vI (as := [.int a1]) (st := []) (c_To_isStanding Z h1) k_To_isStanding lk_To_53 (by decide) rfl (by decide) ly_19 ok_To.1 rfl (Nat.le_of_ble_eq_true rfl) d_To_isStandingOf_2 ?_
  refine V.if_eq (tgt := 22) d_To_isStandingOf_5 (by decide) (fun hc5 => ?_) (fun hc5 => ?_)
  · replace h := ite_t hc5 h
    refine V.iconst (v := 0) d_To_isStandingOf_22 (by decide) ?_
    cases h
    exact V.zret rfl rfl d_To_isStandingOf_23 ⟨rfl, rfl⟩
  · replace h := ite_f hc5 h
    refine V.aload_n d_To_isStandingOf_8 rfl 0 rfl ?_
    refine V.getR (r := 20) ok_To fl_To_11 (by decide) (by decide) ly_19 rfl d_To_isStandingOf_9 ?_
    refine V.iload_n d_To_isStandingOf_12 rfl 1 rfl ?_
    obtain ⟨gq, h⟩ := grd_e h
    refine V.ra (by decide) ly_20 (inb_e gq) rfl d_To_isStandingOf_13 ?_
    refine V.iload_n d_To_isStandingOf_14 rfl 2 rfl ?_
    refine V.icmp_ne (tgt := 22) d_To_isStandingOf_15 (by decide) (fun hc15 => ?_) (fun hc15 => ?_)
    · replace h := ite_f hc15 h
      refine V.iconst (v := 0) d_To_isStandingOf_22 (by decide) ?_
      cases h
      exact V.zret rfl rfl d_To_isStandingOf_23 ⟨rfl, rfl⟩
    · replace h := ite_t hc15 h
      refine V.iconst (v := 1) d_To_isStandingOf_18 (by decide) ?_
      refine V.goto (tgt := 23) d_To_isStandingOf_19 (by decide) ?_
      cases h
      exact V.zret rfl rfl d_To_isStandingOf_23 ⟨rfl, rfl⟩
abbrev m_To_houseOn : MI := (⟨"ShadeTown$Town", "houseOn", "(I)I"⟩, prog_9_method_7_code, 3, (Option.some Jvm.ClassFile.FieldType.int))
theorem d_To_houseOn_0 : decode prog_9_method_7_code 0 = .ok (.iconst 0, 1) := by decide +kernel
theorem d_To_houseOn_1 : decode prog_9_method_7_code 1 = .ok (.istore_n 2, 1) := by decide +kernel
theorem d_To_houseOn_2 : decode prog_9_method_7_code 2 = .ok (.iload_n 2, 1) := by decide +kernel
theorem d_To_houseOn_3 : decode prog_9_method_7_code 3 = .ok (.aload_n 0, 1) := by decide +kernel
theorem d_To_houseOn_4 : decode prog_9_method_7_code 4 = .ok (.getfield 30, 3) := by decide +kernel
theorem d_To_houseOn_10 : decode prog_9_method_7_code 10 = .ok (.aload_n 0, 1) := by decide +kernel
theorem fl_To_15 : FL "ShadeTown$Town" 15 T_To 1 := atG 219 (by decide +kernel) rfl
theorem d_To_houseOn_11 : decode prog_9_method_7_code 11 = .ok (.getfield 15, 3) := by decide +kernel
theorem d_To_houseOn_14 : decode prog_9_method_7_code 14 = .ok (.iload_n 2, 1) := by decide +kernel
theorem d_To_houseOn_15 : decode prog_9_method_7_code 15 = .ok (.iaload, 1) := by decide +kernel
theorem d_To_houseOn_16 : decode prog_9_method_7_code 16 = .ok (.iload_n 1, 1) := by decide +kernel
theorem d_To_houseOn_20 : decode prog_9_method_7_code 20 = .ok (.aload_n 0, 1) := by decide +kernel
theorem d_To_houseOn_21 : decode prog_9_method_7_code 21 = .ok (.iload_n 2, 1) := by decide +kernel
theorem d_To_houseOn_22 : decode prog_9_method_7_code 22 = .ok (.iconst 0, 1) := by decide +kernel
theorem d_To_houseOn_23 : decode prog_9_method_7_code 23 = .ok (.invokevirtual 56, 3) := by decide +kernel
theorem k_To_isStandingOf : MOk m_To_isStandingOf 2 ∧ IOk m_To_isStandingOf := ⟨⟨atG 709 (by decide +kernel) rfl, atG 115 (by decide +kernel) rfl, ⟨by decide, by decide⟩, by decide +kernel, by decide⟩, atG 707 (by decide +kernel) rfl, atG 708 (by decide +kernel) rfl⟩
theorem lk_To_56 : Cond.methodLink "ShadeTown$Town" 56 ⟨"ShadeTown$Town", "isStandingOf", "(II)Z"⟩ ∈ tblG := atG 706 (by decide +kernel) rfl
theorem d_To_houseOn_26 : decode prog_9_method_7_code 26 = .ok (.ifCond .eq 5, 3) := by decide +kernel
theorem d_To_houseOn_17 : decode prog_9_method_7_code 17 = .ok (.if_icmp .ne 14, 3) := by decide +kernel
theorem d_To_houseOn_7 : decode prog_9_method_7_code 7 = .ok (.if_icmp .ge 30, 3) := by decide +kernel
theorem d_To_houseOn_37 : decode prog_9_method_7_code 37 = .ok (.iconst (-1), 1) := by decide +kernel
theorem d_To_houseOn_38 : decode prog_9_method_7_code 38 = .ok (.ireturn, 1) := by decide +kernel
theorem d_To_houseOn_31 : decode prog_9_method_7_code 31 = .ok (.iinc 2 1, 3) := by decide +kernel
theorem d_To_houseOn_34 : decode prog_9_method_7_code 34 = .ok (.goto (-32), 3) := by decide +kernel
theorem d_To_houseOn_29 : decode prog_9_method_7_code 29 = .ok (.iload_n 2, 1) := by decide +kernel
theorem d_To_houseOn_30 : decode prog_9_method_7_code 30 = .ok (.ireturn, 1) := by decide +kernel
def B_To_houseOn_l2 (N : Nat) (a1 : Int32) (σ : Mem) (rec : Int32 → Option (Int32)) (x2 : Int32) : Option (Int32) :=
  bnd1 ((
    if (mI σ 19 6) ≤ x2 then
      (some 0)
    else
      (grd (inb x2 17) <|
      if (mI σ 21 (x2.toNatClampNeg)) = a1 then
        (bnd1 (f_To_isStandingOf σ x2 0) fun r23 =>
        if r23 = 0 then
          (some 1)
        else
          (some 2))
      else
        (some 1))) : Option (Nat)) fun t7b =>
  if t7b = 0 then
    (some (-1))
  else
  if t7b = 1 then
    (letv (x2 + 1) fun v31 =>
    rec v31)
  else
  (some x2)
def L_To_houseOn_l2 (N : Nat) (a1 : Int32) (σ : Mem) : Nat → Int32 → Option (Int32)
  | 0, _ => none
  | k + 1, x2 => B_To_houseOn_l2 N a1 σ (L_To_houseOn_l2 N a1 σ k) x2
set_option maxHeartbeats 4000000 in
set_option maxRecDepth 20000 in
theorem cL_To_houseOn_l2 (Z : ZX) {Y : YX} {post : Option Value → Mem → Prop} {N : Nat} {a1 : Int32} {σ : Mem} {Good : Int32 → Prop} (hR : ∀ (v : Int32), Good v → post (some (.int v)) σ) : ∀ (k : Nat) (x2 : Int32) (res : Int32), L_To_houseOn_l2 N a1 σ k x2 = some res → Good res → V (mkB Z) Y m_To_houseOn 3 (QP (mkB Z) Y nC 0 0 post) 0 0 nC σ 2 [(0, rf Z 19), (1, .int a1), (2, .int x2)] [] := by
  intro k
  induction k with
  | zero => intro x2 res h; cases h
  | succ k ih =>
    intro x2 res h hg
    replace h : B_To_houseOn_l2 N a1 σ (L_To_houseOn_l2 N a1 σ k) x2 = some res := h
    unfold B_To_houseOn_l2 at h
    refine V.iload_n d_To_houseOn_2 rfl 2 rfl ?_
    refine V.aload_n d_To_houseOn_3 rfl 0 rfl ?_
    refine V.getI ok_To fl_To_30 (by decide) (by decide) ly_19 rfl d_To_houseOn_4 ?_
    obtain ⟨s7b, h1, h⟩ := bnd1_e h
    have J7b_37 : s7b = 0 → V (mkB Z) Y m_To_houseOn 3 (QP (mkB Z) Y nC 0 0 post) 0 0 nC σ 37 [] [] := by
      intro he
      rw [he] at h
      replace h := ite_t rfl h
      refine V.iconst (v := (-1)) d_To_houseOn_37 (by decide) ?_
      cases h
      exact V.iret rfl d_To_houseOn_38 (hR _ hg)
    have J7b_31 : s7b = 1 → V (mkB Z) Y m_To_houseOn 3 (QP (mkB Z) Y nC 0 0 post) 0 0 nC σ 31 [(0, rf Z 19), (1, .int a1), (2, .int x2)] [] := by
      intro he
      rw [he] at h
      replace h := ite_f (by decide) h
      replace h := ite_t rfl h
      obtain ⟨v31, e_v31, h⟩ := letv_e h
      refine V.iinc (v := v31) (lv' := [(2, .int v31), (0, rf Z 19), (1, .int a1)]) d_To_houseOn_31 2 rfl (by rw [e_v31]; rfl) (by decide) rfl ?_
      refine V.goto (tgt := 2) d_To_houseOn_34 (by decide) ?_
      exact V.pick [1, 2, 0] rfl (ih _ _ h hg)
    have J7b_29 : s7b = 2 → V (mkB Z) Y m_To_houseOn 3 (QP (mkB Z) Y nC 0 0 post) 0 0 nC σ 29 [(2, .int x2)] [] := by
      intro he
      rw [he] at h
      replace h := ite_f (by decide) h
      replace h := ite_f (by decide) h
      refine V.iload_n d_To_houseOn_29 rfl 0 rfl ?_
      cases h
      exact V.iret rfl d_To_houseOn_30 (hR _ hg)
    replace h := h1
    refine V.icmp_ge (tgt := 37) d_To_houseOn_7 (by decide) (fun hc7 => ?_) (fun hc7 => ?_)
    · replace h := ite_t hc7 h
      exact V.pick [] rfl (J7b_37 (Option.some.inj h).symm)
    · replace h := ite_f hc7 h
      refine V.aload_n d_To_houseOn_10 rfl 0 rfl ?_
      refine V.getR (r := 21) ok_To fl_To_15 (by decide) (by decide) ly_19 rfl d_To_houseOn_11 ?_
      refine V.iload_n d_To_houseOn_14 rfl 2 rfl ?_
      obtain ⟨gq, h⟩ := grd_e h
      refine V.ra (by decide) ly_21 (inb_e gq) rfl d_To_houseOn_15 ?_
      refine V.iload_n d_To_houseOn_16 rfl 1 rfl ?_
      refine V.icmp_ne (tgt := 31) d_To_houseOn_17 (by decide) (fun hc17 => ?_) (fun hc17 => ?_)
      · replace h := ite_f hc17 h
        exact V.pick [0, 1, 2] rfl (J7b_31 (Option.some.inj h).symm)
      · replace h := ite_t hc17 h
        refine V.aload_n d_To_houseOn_20 rfl 0 rfl ?_
        refine V.iload_n d_To_houseOn_21 rfl 2 rfl ?_
        refine V.iconst (v := 0) d_To_houseOn_22 (by decide) ?_
        obtain ⟨r23, h1, h⟩ := bnd1_e h
        refine V.vI (as := [.int x2, .int 0]) (st := []) (c_To_isStandingOf Z h1) k_To_isStandingOf lk_To_56 (by decide) rfl (by decide) ly_19 ok_To.1 rfl (Nat.le_of_ble_eq_true rfl) d_To_houseOn_23 ?_
        refine V.if_eq (tgt := 31) d_To_houseOn_26 (by decide) (fun hc26 => ?_) (fun hc26 => ?_)
        · replace h := ite_t hc26 h
          exact V.pick [0, 1, 2] rfl (J7b_31 (Option.some.inj h).symm)
        · replace h := ite_f hc26 h
          exact V.pick [2] rfl (J7b_29 (Option.some.inj h).symm)
def f_To_houseOn (N : Nat) (σ : Mem) (a1 : Int32) : Option (Int32) :=
  L_To_houseOn_l2 N a1 σ N 0
set_option maxHeartbeats 4000000 in
set_option maxRecDepth 20000 in
theorem c_To_houseOn (Z : ZX) {N : Nat} {σ : Mem} {a1 : Int32} {r : Int32} (h : f_To_houseOn N σ a1 = some r) : CI Z 3 m_To_houseOn [rf Z 19, .int a1] σ r σ := by
  refine Ct.of (by decide +kernel) (Nat.le_of_ble_eq_true rfl) (fun Y => ?_)
  show V (mkB Z) Y m_To_houseOn 3 (QP (mkB Z) Y nC 0 0 (fun v t => v = some (.int r) ∧ t = σ)) 0 0 nC σ 0 [(0, rf Z 19), (1, .int a1)] []
  unfold f_To_houseOn at h
  refine V.iconst (v := 0) d_To_houseOn_0 (by decide) ?_
  refine V.istore_n (lv' := [(2, .int 0), (0, rf Z 19), (1, .int a1)]) d_To_houseOn_1 rfl (by decide) rfl ?_
  refine V.pick [1, 2, 0] rfl (cL_To_houseOn_l2 Z (Good := fun z => z = _) (fun r2v he => ?_) N _ _ h rfl)
  · cases he
    exact ⟨rfl, rfl⟩
abbrev m_Da_forgetShade : MI := (⟨"ShadeTown$Day", "forgetShade", "()V"⟩, prog_3_method_3_code, 1, (Option.none : Option Jvm.ClassFile.FieldType))
theorem d_Da_forgetShade_0 : decode prog_3_method_3_code 0 = .ok (.aload_n 0, 1) := by decide +kernel
theorem d_Da_forgetShade_1 : decode prog_3_method_3_code 1 = .ok (.iconst 0, 1) := by decide +kernel
theorem d_Da_forgetShade_2 : decode prog_3_method_3_code 2 = .ok (.putfield 35, 3) := by decide +kernel
theorem d_Da_forgetShade_5 : decode prog_3_method_3_code 5 = .ok (.return_, 1) := by decide +kernel
def f_Da_forgetShade (σ : Mem) : Option (Mem) :=
  letv (sI σ 33 9 0) fun σ2 =>
  some σ2
set_option maxHeartbeats 4000000 in
set_option maxRecDepth 20000 in
theorem c_Da_forgetShade (Z : ZX) {σ : Mem} {σ' : Mem} (h : f_Da_forgetShade σ = some σ') : CN Z 0 m_Da_forgetShade [rf Z 33] σ σ' := by
  refine Ct.of (by decide +kernel) (Nat.le_of_ble_eq_true rfl) (fun Y => ?_)
  show V (mkB Z) Y m_Da_forgetShade 0 (QP (mkB Z) Y nC 0 0 (fun v t => v = none ∧ t = σ')) 0 0 nC σ 0 [(0, rf Z 33)] []
  unfold f_Da_forgetShade at h
  refine V.aload_n d_Da_forgetShade_0 rfl 0 rfl ?_
  refine V.iconst (v := 0) d_Da_forgetShade_1 (by decide) ?_
  obtain ⟨σ2, e_σ2, h⟩ := letv_e h
  refine V.putI ok_Da fl_Da_35 (by decide) (by decide) ly_33 rfl rfl rfl rfl d_Da_forgetShade_2 (V.mem e_σ2 ?_)
  cases h
  exact V.vret rfl d_Da_forgetShade_5 ⟨rfl, rfl⟩
abbrev m_To_add : MI := (⟨"ShadeTown$Town", "add", "(IIIII)I"⟩, prog_9_method_9_code, 7, (Option.some Jvm.ClassFile.FieldType.int))
theorem d_To_add_0 : decode prog_9_method_9_code 0 = .ok (.aload_n 0, 1) := by decide +kernel
theorem d_To_add_1 : decode prog_9_method_9_code 1 = .ok (.getfield 30, 3) := by decide +kernel
theorem d_To_add_4 : decode prog_9_method_9_code 4 = .ok (.istore 6, 2) := by decide +kernel
theorem d_To_add_6 : decode prog_9_method_9_code 6 = .ok (.iload 6, 2) := by decide +kernel
theorem d_To_add_8 : decode prog_9_method_9_code 8 = .ok (.bipush 16, 2) := by decide +kernel
theorem d_To_add_15 : decode prog_9_method_9_code 15 = .ok (.aload_n 0, 1) := by decide +kernel
theorem d_To_add_16 : decode prog_9_method_9_code 16 = .ok (.getfield 11, 3) := by decide +kernel
theorem d_To_add_19 : decode prog_9_method_9_code 19 = .ok (.iload 6, 2) := by decide +kernel
theorem d_To_add_21 : decode prog_9_method_9_code 21 = .ok (.iload_n 1, 1) := by decide +kernel
theorem d_To_add_22 : decode prog_9_method_9_code 22 = .ok (.iastore, 1) := by decide +kernel
theorem d_To_add_23 : decode prog_9_method_9_code 23 = .ok (.aload_n 0, 1) := by decide +kernel
theorem d_To_add_24 : decode prog_9_method_9_code 24 = .ok (.getfield 15, 3) := by decide +kernel
theorem d_To_add_27 : decode prog_9_method_9_code 27 = .ok (.iload 6, 2) := by decide +kernel
theorem d_To_add_29 : decode prog_9_method_9_code 29 = .ok (.iload_n 2, 1) := by decide +kernel
theorem d_To_add_30 : decode prog_9_method_9_code 30 = .ok (.iastore, 1) := by decide +kernel
theorem d_To_add_31 : decode prog_9_method_9_code 31 = .ok (.aload_n 0, 1) := by decide +kernel
theorem fl_To_18 : FL "ShadeTown$Town" 18 T_To 2 := atG 222 (by decide +kernel) rfl
theorem d_To_add_32 : decode prog_9_method_9_code 32 = .ok (.getfield 18, 3) := by decide +kernel
theorem d_To_add_35 : decode prog_9_method_9_code 35 = .ok (.iload 6, 2) := by decide +kernel
theorem d_To_add_37 : decode prog_9_method_9_code 37 = .ok (.iload_n 3, 1) := by decide +kernel
theorem d_To_add_38 : decode prog_9_method_9_code 38 = .ok (.iastore, 1) := by decide +kernel
theorem d_To_add_39 : decode prog_9_method_9_code 39 = .ok (.aload_n 0, 1) := by decide +kernel
theorem fl_To_21 : FL "ShadeTown$Town" 21 T_To 3 := atG 225 (by decide +kernel) rfl
theorem d_To_add_40 : decode prog_9_method_9_code 40 = .ok (.getfield 21, 3) := by decide +kernel
theorem d_To_add_43 : decode prog_9_method_9_code 43 = .ok (.iload 6, 2) := by decide +kernel
theorem d_To_add_45 : decode prog_9_method_9_code 45 = .ok (.iload 4, 2) := by decide +kernel
theorem d_To_add_47 : decode prog_9_method_9_code 47 = .ok (.iastore, 1) := by decide +kernel
theorem d_To_add_48 : decode prog_9_method_9_code 48 = .ok (.aload_n 0, 1) := by decide +kernel
theorem fl_To_24 : FL "ShadeTown$Town" 24 T_To 4 := atG 228 (by decide +kernel) rfl
theorem d_To_add_49 : decode prog_9_method_9_code 49 = .ok (.getfield 24, 3) := by decide +kernel
theorem d_To_add_52 : decode prog_9_method_9_code 52 = .ok (.iload 6, 2) := by decide +kernel
theorem d_To_add_54 : decode prog_9_method_9_code 54 = .ok (.iload 5, 2) := by decide +kernel
theorem d_To_add_56 : decode prog_9_method_9_code 56 = .ok (.iastore, 1) := by decide +kernel
theorem d_To_add_57 : decode prog_9_method_9_code 57 = .ok (.aload_n 0, 1) := by decide +kernel
theorem d_To_add_58 : decode prog_9_method_9_code 58 = .ok (.dup, 1) := by decide +kernel
theorem d_To_add_59 : decode prog_9_method_9_code 59 = .ok (.getfield 34, 3) := by decide +kernel
theorem d_To_add_62 : decode prog_9_method_9_code 62 = .ok (.iconst 1, 1) := by decide +kernel
theorem d_To_add_63 : decode prog_9_method_9_code 63 = .ok (.iload 6, 2) := by decide +kernel
theorem d_To_add_65 : decode prog_9_method_9_code 65 = .ok (.ishl, 1) := by decide +kernel
theorem d_To_add_66 : decode prog_9_method_9_code 66 = .ok (.ior, 1) := by decide +kernel
theorem d_To_add_67 : decode prog_9_method_9_code 67 = .ok (.putfield 34, 3) := by decide +kernel
theorem d_To_add_70 : decode prog_9_method_9_code 70 = .ok (.aload_n 0, 1) := by decide +kernel
theorem d_To_add_71 : decode prog_9_method_9_code 71 = .ok (.dup, 1) := by decide +kernel
theorem d_To_add_72 : decode prog_9_method_9_code 72 = .ok (.getfield 30, 3) := by decide +kernel
theorem d_To_add_75 : decode prog_9_method_9_code 75 = .ok (.iconst 1, 1) := by decide +kernel
theorem d_To_add_76 : decode prog_9_method_9_code 76 = .ok (.iadd, 1) := by decide +kernel
theorem d_To_add_77 : decode prog_9_method_9_code 77 = .ok (.putfield 30, 3) := by decide +kernel
theorem d_To_add_80 : decode prog_9_method_9_code 80 = .ok (.iload 6, 2) := by decide +kernel
theorem d_To_add_82 : decode prog_9_method_9_code 82 = .ok (.ireturn, 1) := by decide +kernel
theorem d_To_add_13 : decode prog_9_method_9_code 13 = .ok (.iconst (-1), 1) := by decide +kernel
theorem d_To_add_14 : decode prog_9_method_9_code 14 = .ok (.ireturn, 1) := by decide +kernel
theorem d_To_add_10 : decode prog_9_method_9_code 10 = .ok (.if_icmp .lt 5, 3) := by decide +kernel
def f_To_add (σ : Mem) (a1 : Int32) (a2 : Int32) (a3 : Int32) (a4 : Int32) (a5 : Int32) : Option (Int32 × Mem) :=
  letv (mI σ 19 6) fun v4 =>
  if v4 < 16 then
    (grd (inb v4 17) <|
    letv (sI σ 20 (v4.toNatClampNeg) a1) fun σ22 =>
    grd (inb v4 17) <|
    letv (sI σ22 21 (v4.toNatClampNeg) a2) fun σ30 =>
    grd (inb v4 17) <|
    letv (sI σ30 22 (v4.toNatClampNeg) a3) fun σ38 =>
    grd (inb v4 17) <|
    letv (sI σ38 23 (v4.toNatClampNeg) a4) fun σ47 =>
    grd (inb v4 17) <|
    letv (sI σ47 24 (v4.toNatClampNeg) a5) fun σ56 =>
    letv (sI σ56 19 7 ((mI σ56 19 7) ||| (1 <<< (v4 &&& 31)))) fun σ67 =>
    letv (sI σ67 19 6 ((mI σ67 19 6) + 1)) fun σ77 =>
    some (v4, σ77))
  else
    (some ((-1), σ))
set_option maxHeartbeats 4000000 in
set_option maxRecDepth 20000 in
theorem c_To_add (Z : ZX) {σ : Mem} {a1 : Int32} {a2 : Int32} {a3 : Int32} {a4 : Int32} {a5 : Int32} {r : Int32} {σ' : Mem} (h : f_To_add σ a1 a2 a3 a4 a5 = some (r, σ')) : CI Z 0 m_To_add [rf Z 19, .int a1, .int a2, .int a3, .int a4, .int a5] σ r σ' := by
  refine Ct.of (by decide +kernel) (Nat.le_of_ble_eq_true rfl) (fun Y => ?_)
  show V (mkB Z) Y m_To_add 0 (QP (mkB Z) Y nC 0 0 (fun v t => v = some (.int r) ∧ t = σ')) 0 0 nC σ 0 [(0, rf Z 19), (1, .int a1), (2, .int a2), (3, .int a3), (4, .int a4), (5, .int a5)] []
  unfold f_To_add at h
  refine V.aload_n d_To_add_0 rfl 0 rfl ?_
  refine V.getI ok_To fl_To_30 (by decide) (by decide) ly_19 rfl d_To_add_1 ?_
  obtain ⟨v4, e_v4, h⟩ := letv_e h
  refine V.topI e_v4 ?_
  refine V.istore (lv' := [(6, .int v4), (0, rf Z 19), (1, .int a1), (2, .int a2), (3, .int a3), (4, .int a4), (5, .int a5)]) d_To_add_4 (by decide) rfl ?_
  refine V.iload d_To_add_6 0 rfl ?_
  refine V.bipush (v := 16) d_To_add_8 (by decide) ?_
  refine V.icmp_lt (tgt := 15) d_To_add_10 (by decide) (fun hc10 => ?_) (fun hc10 => ?_)
  · replace h := ite_t hc10 h
    refine V.aload_n d_To_add_15 rfl 1 rfl ?_
    refine V.getR (r := 20) ok_To fl_To_11 (by decide) (by decide) ly_19 rfl d_To_add_16 ?_
    refine V.iload d_To_add_19 0 rfl ?_
    refine V.iload_n d_To_add_21 rfl 2 rfl ?_
    obtain ⟨gq, h⟩ := grd_e h
    obtain ⟨σ22, e_σ22, h⟩ := letv_e h
    refine V.wa (by decide) ly_20 (inb_e gq) rfl d_To_add_22 e_σ22 ?_
    refine V.aload_n d_To_add_23 rfl 1 rfl ?_
    refine V.getR (r := 21) ok_To fl_To_15 (by decide) (by decide) ly_19 rfl d_To_add_24 ?_
    refine V.iload d_To_add_27 0 rfl ?_
    refine V.iload_n d_To_add_29 rfl 3 rfl ?_
    obtain ⟨gq, h⟩ := grd_e h
    obtain ⟨σ30, e_σ30, h⟩ := letv_e h
    refine V.wa (by decide) ly_21 (inb_e gq) rfl d_To_add_30 e_σ30 ?_
    refine V.aload_n d_To_add_31 rfl 1 rfl ?_
    refine V.getR (r := 22) ok_To fl_To_18 (by decide) (by decide) ly_19 rfl d_To_add_32 ?_
    refine V.iload d_To_add_35 0 rfl ?_
    refine V.iload_n d_To_add_37 rfl 4 rfl ?_
    obtain ⟨gq, h⟩ := grd_e h
    obtain ⟨σ38, e_σ38, h⟩ := letv_e h
    refine V.wa (by decide) ly_22 (inb_e gq) rfl d_To_add_38 e_σ38 ?_
    refine V.aload_n d_To_add_39 rfl 1 rfl ?_
    refine V.getR (r := 23) ok_To fl_To_21 (by decide) (by decide) ly_19 rfl d_To_add_40 ?_
    refine V.iload d_To_add_43 0 rfl ?_
    refine V.iload d_To_add_45 5 rfl ?_
    obtain ⟨gq, h⟩ := grd_e h
    obtain ⟨σ47, e_σ47, h⟩ := letv_e h
    refine V.wa (by decide) ly_23 (inb_e gq) rfl d_To_add_47 e_σ47 ?_
    refine V.aload_n d_To_add_48 rfl 1 rfl ?_
    refine V.getR (r := 24) ok_To fl_To_24 (by decide) (by decide) ly_19 rfl d_To_add_49 ?_
    refine V.iload d_To_add_52 0 rfl ?_
    refine V.iload d_To_add_54 6 rfl ?_
    obtain ⟨gq, h⟩ := grd_e h
    obtain ⟨σ56, e_σ56, h⟩ := letv_e h
    refine V.wa (by decide) ly_24 (inb_e gq) rfl d_To_add_56 e_σ56 ?_
    refine V.aload_n d_To_add_57 rfl 1 rfl ?_
    refine V.dup d_To_add_58 rfl ?_
    refine V.getI ok_To fl_To_34 (by decide) (by decide) ly_19 rfl d_To_add_59 ?_
    refine V.iconst (v := 1) d_To_add_62 (by decide) ?_
    refine V.iload d_To_add_63 0 rfl ?_
    refine V.ishl d_To_add_65 ?_
    refine V.ior d_To_add_66 ?_
    obtain ⟨σ67, e_σ67, h⟩ := letv_e h
    refine V.putI ok_To fl_To_34 (by decide) (by decide) ly_19 rfl rfl rfl rfl d_To_add_67 (V.mem e_σ67 ?_)
    refine V.aload_n d_To_add_70 rfl 1 rfl ?_
    refine V.dup d_To_add_71 rfl ?_
    refine V.getI ok_To fl_To_30 (by decide) (by decide) ly_19 rfl d_To_add_72 ?_
    refine V.iconst (v := 1) d_To_add_75 (by decide) ?_
    refine V.iadd d_To_add_76 ?_
    obtain ⟨σ77, e_σ77, h⟩ := letv_e h
    refine V.putI ok_To fl_To_30 (by decide) (by decide) ly_19 rfl rfl rfl rfl d_To_add_77 (V.mem e_σ77 ?_)
    refine V.iload d_To_add_80 0 rfl ?_
    cases h
    exact V.iret rfl d_To_add_82 ⟨rfl, rfl⟩
  · replace h := ite_f hc10 h
    refine V.iconst (v := (-1)) d_To_add_13 (by decide) ?_
    cases h
    exact V.iret rfl d_To_add_14 ⟨rfl, rfl⟩
abbrev m_Sh_caster : MI := (⟨"ShadeTown", "caster", "(IIIII)I"⟩, prog_1_method_4_code, 8, (Option.some Jvm.ClassFile.FieldType.int))
theorem d_Sh_caster_0 : decode prog_1_method_4_code 0 = .ok (.iload_n 1, 1) := by decide +kernel
theorem d_Sh_caster_4 : decode prog_1_method_4_code 4 = .ok (.iload_n 1, 1) := by decide +kernel
theorem d_Sh_caster_5 : decode prog_1_method_4_code 5 = .ok (.iconst 1, 1) := by decide +kernel
theorem d_Sh_caster_9 : decode prog_1_method_4_code 9 = .ok (.iload_n 1, 1) := by decide +kernel
theorem d_Sh_caster_10 : decode prog_1_method_4_code 10 = .ok (.iconst 3, 1) := by decide +kernel
theorem d_Sh_caster_11 : decode prog_1_method_4_code 11 = .ok (.if_icmp .ne 7, 3) := by decide +kernel
theorem d_Sh_caster_6 : decode prog_1_method_4_code 6 = .ok (.if_icmp .eq 8, 3) := by decide +kernel
theorem d_Sh_caster_1 : decode prog_1_method_4_code 1 = .ok (.ifCond .eq 13, 3) := by decide +kernel
theorem d_Sh_caster_14 : decode prog_1_method_4_code 14 = .ok (.iconst 1, 1) := by decide +kernel
theorem d_Sh_caster_15 : decode prog_1_method_4_code 15 = .ok (.goto 4, 3) := by decide +kernel
theorem d_Sh_caster_18 : decode prog_1_method_4_code 18 = .ok (.iconst 0, 1) := by decide +kernel
theorem d_Sh_caster_19 : decode prog_1_method_4_code 19 = .ok (.istore 6, 2) := by decide +kernel
theorem d_Sh_caster_21 : decode prog_1_method_4_code 21 = .ok (.iload 6, 2) := by decide +kernel
theorem d_Sh_caster_26 : decode prog_1_method_4_code 26 = .ok (.iload_n 2, 1) := by decide +kernel
theorem d_Sh_caster_27 : decode prog_1_method_4_code 27 = .ok (.iload_n 3, 1) := by decide +kernel
theorem d_Sh_caster_28 : decode prog_1_method_4_code 28 = .ok (.invokestatic 119, 3) := by decide +kernel
theorem k_Sh_inTown : MOk m_Sh_inTown 2 ∧ Cond.static m_Sh_inTown.1 ∈ tblG := ⟨⟨atG 694 (by decide +kernel) rfl, atG 111 (by decide +kernel) rfl, ⟨by decide, by decide⟩, by decide +kernel, by decide⟩, atG 693 (by decide +kernel) rfl⟩
theorem lk_Sh_119 : Cond.methodLink "ShadeTown" 119 ⟨"ShadeTown", "inTown", "(II)Z"⟩ ∈ tblG := atG 692 (by decide +kernel) rfl
theorem d_Sh_caster_34 : decode prog_1_method_4_code 34 = .ok (.iload 4, 2) := by decide +kernel
theorem d_Sh_caster_36 : decode prog_1_method_4_code 36 = .ok (.iconst 1, 1) := by decide +kernel
theorem d_Sh_caster_40 : decode prog_1_method_4_code 40 = .ok (.iload 4, 2) := by decide +kernel
theorem d_Sh_caster_42 : decode prog_1_method_4_code 42 = .ok (.bipush 99, 2) := by decide +kernel
theorem d_Sh_caster_47 : decode prog_1_method_4_code 47 = .ok (.iload 5, 2) := by decide +kernel
theorem d_Sh_caster_49 : decode prog_1_method_4_code 49 = .ok (.invokestatic 123, 3) := by decide +kernel
theorem k_Sh_isOwner : MOk m_Sh_isOwner 1 ∧ Cond.static m_Sh_isOwner.1 ∈ tblG := ⟨⟨atG 697 (by decide +kernel) rfl, atG 111 (by decide +kernel) rfl, ⟨by decide, by decide⟩, by decide +kernel, by decide⟩, atG 696 (by decide +kernel) rfl⟩
theorem lk_Sh_123 : Cond.methodLink "ShadeTown" 123 ⟨"ShadeTown", "isOwner", "(I)Z"⟩ ∈ tblG := atG 695 (by decide +kernel) rfl
theorem d_Sh_caster_55 : decode prog_1_method_4_code 55 = .ok (.aload_n 0, 1) := by decide +kernel
theorem fl_Sh_38 : FL "ShadeTown" 38 T_Sh 4 := atG 423 (by decide +kernel) rfl
theorem d_Sh_caster_56 : decode prog_1_method_4_code 56 = .ok (.getfield 38, 3) := by decide +kernel
theorem d_Sh_caster_59 : decode prog_1_method_4_code 59 = .ok (.invokevirtual 126, 3) := by decide +kernel
theorem k_To_isFull : MOk m_To_isFull 0 ∧ IOk m_To_isFull := ⟨⟨atG 701 (by decide +kernel) rfl, atG 115 (by decide +kernel) rfl, ⟨by decide, by decide⟩, by decide +kernel, by decide⟩, atG 699 (by decide +kernel) rfl, atG 700 (by decide +kernel) rfl⟩
theorem lk_Sh_126 : Cond.methodLink "ShadeTown" 126 ⟨"ShadeTown$Town", "isFull", "()Z"⟩ ∈ tblG := atG 698 (by decide +kernel) rfl
theorem d_Sh_caster_67 : decode prog_1_method_4_code 67 = .ok (.bipush 12, 2) := by decide +kernel
theorem d_Sh_caster_69 : decode prog_1_method_4_code 69 = .ok (.iload_n 3, 1) := by decide +kernel
theorem d_Sh_caster_70 : decode prog_1_method_4_code 70 = .ok (.imul, 1) := by decide +kernel
theorem d_Sh_caster_71 : decode prog_1_method_4_code 71 = .ok (.iload_n 2, 1) := by decide +kernel
theorem d_Sh_caster_72 : decode prog_1_method_4_code 72 = .ok (.iadd, 1) := by decide +kernel
theorem d_Sh_caster_73 : decode prog_1_method_4_code 73 = .ok (.istore 7, 2) := by decide +kernel
theorem d_Sh_caster_75 : decode prog_1_method_4_code 75 = .ok (.iload_n 1, 1) := by decide +kernel
theorem d_Sh_caster_79 : decode prog_1_method_4_code 79 = .ok (.aload_n 0, 1) := by decide +kernel
theorem d_Sh_caster_80 : decode prog_1_method_4_code 80 = .ok (.getfield 38, 3) := by decide +kernel
theorem d_Sh_caster_83 : decode prog_1_method_4_code 83 = .ok (.iload 7, 2) := by decide +kernel
theorem d_Sh_caster_85 : decode prog_1_method_4_code 85 = .ok (.invokevirtual 130, 3) := by decide +kernel
theorem k_To_houseOn : MOk m_To_houseOn 1 ∧ IOk m_To_houseOn := ⟨⟨atG 705 (by decide +kernel) rfl, atG 115 (by decide +kernel) rfl, ⟨by decide, by decide⟩, by decide +kernel, by decide⟩, atG 703 (by decide +kernel) rfl, atG 704 (by decide +kernel) rfl⟩
theorem lk_Sh_130 : Cond.methodLink "ShadeTown" 130 ⟨"ShadeTown$Town", "houseOn", "(I)I"⟩ ∈ tblG := atG 702 (by decide +kernel) rfl
theorem d_Sh_caster_88 : decode prog_1_method_4_code 88 = .ok (.iconst (-1), 1) := by decide +kernel
theorem d_Sh_caster_89 : decode prog_1_method_4_code 89 = .ok (.if_icmp .eq 6, 3) := by decide +kernel
theorem d_Sh_caster_76 : decode prog_1_method_4_code 76 = .ok (.ifCond .ne 19, 3) := by decide +kernel
theorem d_Sh_caster_62 : decode prog_1_method_4_code 62 = .ok (.ifCond .eq 5, 3) := by decide +kernel
theorem d_Sh_caster_52 : decode prog_1_method_4_code 52 = .ok (.ifCond .eq 13, 3) := by decide +kernel
theorem d_Sh_caster_44 : decode prog_1_method_4_code 44 = .ok (.if_icmp .gt 21, 3) := by decide +kernel
theorem d_Sh_caster_37 : decode prog_1_method_4_code 37 = .ok (.if_icmp .lt 28, 3) := by decide +kernel
theorem d_Sh_caster_31 : decode prog_1_method_4_code 31 = .ok (.ifCond .eq 34, 3) := by decide +kernel
theorem d_Sh_caster_23 : decode prog_1_method_4_code 23 = .ok (.ifCond .eq 42, 3) := by decide +kernel
theorem d_Sh_caster_65 : decode prog_1_method_4_code 65 = .ok (.iconst (-1), 1) := by decide +kernel
theorem d_Sh_caster_66 : decode prog_1_method_4_code 66 = .ok (.ireturn, 1) := by decide +kernel
theorem d_Sh_caster_95 : decode prog_1_method_4_code 95 = .ok (.aload_n 0, 1) := by decide +kernel
theorem d_Sh_caster_96 : decode prog_1_method_4_code 96 = .ok (.getfield 54, 3) := by decide +kernel
theorem d_Sh_caster_99 : decode prog_1_method_4_code 99 = .ok (.invokevirtual 133, 3) := by decide +kernel
theorem k_Da_forgetShade : MOk m_Da_forgetShade 0 ∧ IOk m_Da_forgetShade := ⟨⟨atG 721 (by decide +kernel) rfl, atG 116 (by decide +kernel) rfl, ⟨by decide, by decide⟩, by decide +kernel, by decide⟩, atG 719 (by decide +kernel) rfl, atG 720 (by decide +kernel) rfl⟩
theorem lk_Sh_133 : Cond.methodLink "ShadeTown" 133 ⟨"ShadeTown$Day", "forgetShade", "()V"⟩ ∈ tblG := atG 718 (by decide +kernel) rfl
theorem d_Sh_caster_102 : decode prog_1_method_4_code 102 = .ok (.aload_n 0, 1) := by decide +kernel
theorem d_Sh_caster_103 : decode prog_1_method_4_code 103 = .ok (.getfield 38, 3) := by decide +kernel
theorem d_Sh_caster_106 : decode prog_1_method_4_code 106 = .ok (.iload_n 1, 1) := by decide +kernel
theorem d_Sh_caster_107 : decode prog_1_method_4_code 107 = .ok (.iload 7, 2) := by decide +kernel
theorem d_Sh_caster_109 : decode prog_1_method_4_code 109 = .ok (.iload 4, 2) := by decide +kernel
theorem d_Sh_caster_111 : decode prog_1_method_4_code 111 = .ok (.iconst 0, 1) := by decide +kernel
theorem d_Sh_caster_112 : decode prog_1_method_4_code 112 = .ok (.iload 5, 2) := by decide +kernel
theorem d_Sh_caster_114 : decode prog_1_method_4_code 114 = .ok (.invokevirtual 136, 3) := by decide +kernel
theorem k_To_add : MOk m_To_add 5 ∧ IOk m_To_add := ⟨⟨atG 725 (by decide +kernel) rfl, atG 115 (by decide +kernel) rfl, ⟨by decide, by decide⟩, by decide +kernel, by decide⟩, atG 723 (by decide +kernel) rfl, atG 724 (by decide +kernel) rfl⟩
theorem lk_Sh_136 : Cond.methodLink "ShadeTown" 136 ⟨"ShadeTown$Town", "add", "(IIIII)I"⟩ ∈ tblG := atG 722 (by decide +kernel) rfl
theorem d_Sh_caster_117 : decode prog_1_method_4_code 117 = .ok (.ireturn, 1) := by decide +kernel
theorem d_Sh_caster_92 : decode prog_1_method_4_code 92 = .ok (.bipush (-2), 2) := by decide +kernel
theorem d_Sh_caster_94 : decode prog_1_method_4_code 94 = .ok (.ireturn, 1) := by decide +kernel
def f_Sh_caster (N : Nat) (σ : Mem) (a1 : Int32) (a2 : Int32) (a3 : Int32) (a4 : Int32) (a5 : Int32) : Option (Int32 × Mem) :=
  bnd1 ((
    bnd1 ((
      if a1 = 0 then
        (some 0)
      else
        (if a1 = 1 then
          (some 0)
        else
          (if a1 = 3 then
            (some 0)
          else
            (some 1)))) : Option (Nat)) fun t1b =>
    if t1b = 0 then
      (some 1)
    else
    (some 0)) : Option (Int32)) fun y1_s0 =>
  bnd1 ((
    if y1_s0 = 0 then
      (some (0, 0))
    else
      (bnd1 (f_Sh_inTown a2 a3) fun r28 =>
      if r28 = 0 then
        (some (0, 0))
      else
        (if a4 < 1 then
          (some (0, 0))
        else
          (if 99 < a4 then
            (some (0, 0))
          else
            (bnd1 (f_Sh_isOwner a5) fun r49 =>
            if r49 = 0 then
              (some (0, 0))
            else
              (bnd1 (f_To_isFull σ) fun r59 =>
              if r59 = 0 then
                (letv ((12 * a3) + a2) fun v73 =>
                if a1 = 0 then
                  (bnd1 (f_To_houseOn N σ v73) fun r85 =>
                  if r85 = (-1) then
                    (some (1, v73))
                  else
                    (some (2, v73)))
                else
                  (some (1, v73)))
              else
                (some (0, 0)))))))) : Option (Nat × Int32)) fun s23b =>
  q2 s23b fun t23b y23b_7 =>
  if t23b = 0 then
    (some ((-1), σ))
  else
  if t23b = 1 then
    (bnd1 (f_Da_forgetShade σ) fun σ99 =>
    bnd2 (f_To_add σ99 a1 y23b_7 a4 0 a5) fun r114 σ114 =>
    some (r114, σ114))
  else
  (some ((-2), σ))
set_option maxHeartbeats 4000000 in
set_option maxRecDepth 20000 in
theorem c_Sh_caster (Z : ZX) {N : Nat} {σ : Mem} {a1 : Int32} {a2 : Int32} {a3 : Int32} {a4 : Int32} {a5 : Int32} {r : Int32} {σ' : Mem} (h : f_Sh_caster N σ a1 a2 a3 a4 a5 = some (r, σ')) : CI Z 4 m_Sh_caster [rf Z 0, .int a1, .int a2, .int a3, .int a4, .int a5] σ r σ' := by
  refine Ct.of (by decide +kernel) (Nat.le_of_ble_eq_true rfl) (fun Y => ?_)
  show V (mkB Z) Y m_Sh_caster 4 (QP (mkB Z) Y nC 0 0 (fun v t => v = some (.int r) ∧ t = σ')) 0 0 nC σ 0 [(0, rf Z 0), (1, .int a1), (2, .int a2), (3, .int a3), (4, .int a4), (5, .int a5)] []
  unfold f_Sh_caster at h
  refine V.iload_n d_Sh_caster_0 rfl 1 rfl ?_
  obtain ⟨s1, h1, h⟩ := bnd1_e h
  have J1_19 : ∀ (y1_s0 : Int32), s1 = y1_s0 → V (mkB Z) Y m_Sh_caster 4 (QP (mkB Z) Y nC 0 0 (fun v t => v = some (.int r) ∧ t = σ')) 0 0 nC σ 19 [(0, rf Z 0), (1, .int a1), (2, .int a2), (3, .int a3), (4, .int a4), (5, .int a5)] [.int y1_s0] := by
    intro y1_s0 he
    rw [he] at h
    refine V.istore (lv' := [(6, .int y1_s0), (0, rf Z 0), (1, .int a1), (2, .int a2), (3, .int a3), (4, .int a4), (5, .int a5)]) d_Sh_caster_19 (by decide) rfl ?_
    refine V.iload d_Sh_caster_21 0 rfl ?_
    obtain ⟨s23b, h1, h⟩ := bnd1_e h
    have J23b_65 : ∀ (y23b_7 : Int32), s23b = (0, y23b_7) → V (mkB Z) Y m_Sh_caster 4 (QP (mkB Z) Y nC 0 0 (fun v t => v = some (.int r) ∧ t = σ')) 0 0 nC σ 65 [] [] := by
      intro y23b_7 he
      rw [he] at h
      replace h := q2_e h
      replace h := ite_t rfl h
      refine V.iconst (v := (-1)) d_Sh_caster_65 (by decide) ?_
      cases h
      exact V.iret rfl d_Sh_caster_66 ⟨rfl, rfl⟩
    have J23b_95 : ∀ (y23b_7 : Int32), s23b = (1, y23b_7) → V (mkB Z) Y m_Sh_caster 4 (QP (mkB Z) Y nC 0 0 (fun v t => v = some (.int r) ∧ t = σ')) 0 0 nC σ 95 [(0, rf Z 0), (1, .int a1), (4, .int a4), (5, .int a5), (7, .int y23b_7)] [] := by
      intro y23b_7 he
      rw [he] at h
      replace h := q2_e h
      replace h := ite_f (by decide) h
      replace h := ite_t rfl h
      refine V.aload_n d_Sh_caster_95 rfl 0 rfl ?_
      refine V.getR (r := 33) ok_Sh fl_Sh_54 (by decide) (by decide) ly_0 rfl d_Sh_caster_96 ?_
      obtain ⟨σ99, h1, h⟩ := bnd1_e h
      refine V.vN (as := []) (st := []) (c_Da_forgetShade Z h1) k_Da_forgetShade lk_Sh_133 (by decide) rfl (by decide) ly_33 ok_Da.1 rfl (Nat.le_of_ble_eq_true rfl) d_Sh_caster_99 ?_
      refine V.aload_n d_Sh_caster_102 rfl 0 rfl ?_
      refine V.getR (r := 19) ok_Sh fl_Sh_38 (by decide) (by decide) ly_0 rfl d_Sh_caster_103 ?_
      refine V.iload_n d_Sh_caster_106 rfl 1 rfl ?_
      refine V.iload d_Sh_caster_107 4 rfl ?_
      refine V.iload d_Sh_caster_109 2 rfl ?_
      refine V.iconst (v := 0) d_Sh_caster_111 (by decide) ?_
      refine V.iload d_Sh_caster_112 3 rfl ?_
      obtain ⟨r114, σ114, h1, h⟩ := bnd2_e h
      refine V.vI (as := [.int a1, .int y23b_7, .int a4, .int 0, .int a5]) (st := []) (c_To_add Z h1) k_To_add lk_Sh_136 (by decide) rfl (by decide) ly_19 ok_To.1 rfl (Nat.le_of_ble_eq_true rfl) d_Sh_caster_114 ?_
      cases h
      exact V.iret rfl d_Sh_caster_117 ⟨rfl, rfl⟩
    have J23b_92 : ∀ (y23b_7 : Int32), s23b = (2, y23b_7) → V (mkB Z) Y m_Sh_caster 4 (QP (mkB Z) Y nC 0 0 (fun v t => v = some (.int r) ∧ t = σ')) 0 0 nC σ 92 [] [] := by
      intro y23b_7 he
      rw [he] at h
      replace h := q2_e h
      replace h := ite_f (by decide) h
      replace h := ite_f (by decide) h
      refine V.bipush (v := (-2)) d_Sh_caster_92 (by decide) ?_
      cases h
      exact V.iret rfl d_Sh_caster_94 ⟨rfl, rfl⟩
    replace h := h1
    refine V.if_eq (tgt := 65) d_Sh_caster_23 (by decide) (fun hc23 => ?_) (fun hc23 => ?_)
    · replace h := ite_t hc23 h
      exact V.pick [] rfl (J23b_65 _ (Option.some.inj h).symm)
    · replace h := ite_f hc23 h
      refine V.iload_n d_Sh_caster_26 rfl 3 rfl ?_
      refine V.iload_n d_Sh_caster_27 rfl 4 rfl ?_
      obtain ⟨r28, h1, h⟩ := bnd1_e h
      refine V.sI (as := [.int a2, .int a3]) (st := []) (c_Sh_inTown Z h1) k_Sh_inTown lk_Sh_119 (by decide) rfl rfl (Nat.le_of_ble_eq_true rfl) d_Sh_caster_28 ?_
      refine V.if_eq (tgt := 65) d_Sh_caster_31 (by decide) (fun hc31 => ?_) (fun hc31 => ?_)
      · replace h := ite_t hc31 h
        exact V.pick [] rfl (J23b_65 _ (Option.some.inj h).symm)
      · replace h := ite_f hc31 h
        refine V.iload d_Sh_caster_34 5 rfl ?_
        refine V.iconst (v := 1) d_Sh_caster_36 (by decide) ?_
        refine V.icmp_lt (tgt := 65) d_Sh_caster_37 (by decide) (fun hc37 => ?_) (fun hc37 => ?_)
        · replace h := ite_t hc37 h
          exact V.pick [] rfl (J23b_65 _ (Option.some.inj h).symm)
        · replace h := ite_f hc37 h
          refine V.iload d_Sh_caster_40 5 rfl ?_
          refine V.bipush (v := 99) d_Sh_caster_42 (by decide) ?_
          refine V.icmp_gt (tgt := 65) d_Sh_caster_44 (by decide) (fun hc44 => ?_) (fun hc44 => ?_)
          · replace h := ite_t hc44 h
            exact V.pick [] rfl (J23b_65 _ (Option.some.inj h).symm)
          · replace h := ite_f hc44 h
            refine V.iload d_Sh_caster_47 6 rfl ?_
            obtain ⟨r49, h1, h⟩ := bnd1_e h
            refine V.sI (as := [.int a5]) (st := []) (c_Sh_isOwner Z h1) k_Sh_isOwner lk_Sh_123 (by decide) rfl rfl (Nat.le_of_ble_eq_true rfl) d_Sh_caster_49 ?_
            refine V.if_eq (tgt := 65) d_Sh_caster_52 (by decide) (fun hc52 => ?_) (fun hc52 => ?_)
            · replace h := ite_t hc52 h
              exact V.pick [] rfl (J23b_65 _ (Option.some.inj h).symm)
            · replace h := ite_f hc52 h
              refine V.aload_n d_Sh_caster_55 rfl 1 rfl ?_
              refine V.getR (r := 19) ok_Sh fl_Sh_38 (by decide) (by decide) ly_0 rfl d_Sh_caster_56 ?_
              obtain ⟨r59, h1, h⟩ := bnd1_e h
              refine V.vI (as := []) (st := []) (c_To_isFull Z h1) k_To_isFull lk_Sh_126 (by decide) rfl (by decide) ly_19 ok_To.1 rfl (Nat.le_of_ble_eq_true rfl) d_Sh_caster_59 ?_
              refine V.if_eq (tgt := 67) d_Sh_caster_62 (by decide) (fun hc62 => ?_) (fun hc62 => ?_)
              · replace h := ite_t hc62 h
                refine V.bipush (v := 12) d_Sh_caster_67 (by decide) ?_
                refine V.iload_n d_Sh_caster_69 rfl 4 rfl ?_
                refine V.imul d_Sh_caster_70 ?_
                refine V.iload_n d_Sh_caster_71 rfl 3 rfl ?_
                refine V.iadd d_Sh_caster_72 ?_
                obtain ⟨v73, e_v73, h⟩ := letv_e h
                refine V.topI e_v73 ?_
                refine V.istore (lv' := [(7, .int v73), (6, .int y1_s0), (0, rf Z 0), (1, .int a1), (2, .int a2), (3, .int a3), (4, .int a4), (5, .int a5)]) d_Sh_caster_73 (by decide) rfl ?_
                refine V.iload_n d_Sh_caster_75 rfl 3 rfl ?_
                refine V.if_ne (tgt := 95) d_Sh_caster_76 (by decide) (fun hc76 => ?_) (fun hc76 => ?_)
                · replace h := ite_f hc76 h
                  exact V.pick [2, 3, 6, 7, 0] rfl (J23b_95 _ (Option.some.inj h).symm)
                · replace h := ite_t hc76 h
                  refine V.aload_n d_Sh_caster_79 rfl 2 rfl ?_
                  refine V.getR (r := 19) ok_Sh fl_Sh_38 (by decide) (by decide) ly_0 rfl d_Sh_caster_80 ?_
                  refine V.iload d_Sh_caster_83 0 rfl ?_
                  obtain ⟨r85, h1, h⟩ := bnd1_e h
                  refine V.vI (as := [.int v73]) (st := []) (c_To_houseOn Z h1) k_To_houseOn lk_Sh_130 (by decide) rfl (by decide) ly_19 ok_To.1 rfl (Nat.le_of_ble_eq_true rfl) d_Sh_caster_85 ?_
                  refine V.iconst (v := (-1)) d_Sh_caster_88 (by decide) ?_
                  refine V.icmp_eq (tgt := 95) d_Sh_caster_89 (by decide) (fun hc89 => ?_) (fun hc89 => ?_)
                  · replace h := ite_t hc89 h
                    exact V.pick [2, 3, 6, 7, 0] rfl (J23b_95 _ (Option.some.inj h).symm)
                  · replace h := ite_f hc89 h
                    exact V.pick [] rfl (J23b_92 _ (Option.some.inj h).symm)
              · replace h := ite_f hc62 h
                exact V.pick [] rfl (J23b_65 _ (Option.some.inj h).symm)
  replace h := h1
  obtain ⟨s1b, h1, h⟩ := bnd1_e h
  have J1b_14 : s1b = 0 → V (mkB Z) Y m_Sh_caster 4 (QP (mkB Z) Y nC 0 0 (fun v t => v = some (.int r) ∧ t = σ')) 0 0 nC σ 14 [(0, rf Z 0), (1, .int a1), (2, .int a2), (3, .int a3), (4, .int a4), (5, .int a5)] [] := by
    intro he
    rw [he] at h
    replace h := ite_t rfl h
    refine V.iconst (v := 1) d_Sh_caster_14 (by decide) ?_
    refine V.goto (tgt := 19) d_Sh_caster_15 (by decide) ?_
    exact V.pick [0, 1, 2, 3, 4, 5] rfl (J1_19 _ (Option.some.inj h).symm)
  have J1b_18 : s1b = 1 → V (mkB Z) Y m_Sh_caster 4 (QP (mkB Z) Y nC 0 0 (fun v t => v = some (.int r) ∧ t = σ')) 0 0 nC σ 18 [(0, rf Z 0), (1, .int a1), (2, .int a2), (3, .int a3), (4, .int a4), (5, .int a5)] [] := by
    intro he
    rw [he] at h
    replace h := ite_f (by decide) h
    refine V.iconst (v := 0) d_Sh_caster_18 (by decide) ?_
    exact V.pick [0, 1, 2, 3, 4, 5] rfl (J1_19 _ (Option.some.inj h).symm)
  replace h := h1
  refine V.if_eq (tgt := 14) d_Sh_caster_1 (by decide) (fun hc1 => ?_) (fun hc1 => ?_)
  · replace h := ite_t hc1 h
    exact V.pick [0, 1, 2, 3, 4, 5] rfl (J1b_14 (Option.some.inj h).symm)
  · replace h := ite_f hc1 h
    refine V.iload_n d_Sh_caster_4 rfl 1 rfl ?_
    refine V.iconst (v := 1) d_Sh_caster_5 (by decide) ?_
    refine V.icmp_eq (tgt := 14) d_Sh_caster_6 (by decide) (fun hc6 => ?_) (fun hc6 => ?_)
    · replace h := ite_t hc6 h
      exact V.pick [0, 1, 2, 3, 4, 5] rfl (J1b_14 (Option.some.inj h).symm)
    · replace h := ite_f hc6 h
      refine V.iload_n d_Sh_caster_9 rfl 1 rfl ?_
      refine V.iconst (v := 3) d_Sh_caster_10 (by decide) ?_
      refine V.icmp_ne (tgt := 18) d_Sh_caster_11 (by decide) (fun hc11 => ?_) (fun hc11 => ?_)
      · replace h := ite_f hc11 h
        exact V.pick [0, 1, 2, 3, 4, 5] rfl (J1b_18 (Option.some.inj h).symm)
      · replace h := ite_t hc11 h
        exact V.pick [0, 1, 2, 3, 4, 5] rfl (J1b_14 (Option.some.inj h).symm)
abbrev m_Sh_isLength : MI := (⟨"ShadeTown", "isLength", "(I)Z"⟩, prog_1_method_46_code, 1, (Option.some Jvm.ClassFile.FieldType.boolean))
theorem d_Sh_isLength_0 : decode prog_1_method_46_code 0 = .ok (.iload_n 0, 1) := by decide +kernel
theorem d_Sh_isLength_1 : decode prog_1_method_46_code 1 = .ok (.iconst 1, 1) := by decide +kernel
theorem d_Sh_isLength_14 : decode prog_1_method_46_code 14 = .ok (.iconst 0, 1) := by decide +kernel
theorem d_Sh_isLength_15 : decode prog_1_method_46_code 15 = .ok (.ireturn, 1) := by decide +kernel
theorem d_Sh_isLength_5 : decode prog_1_method_46_code 5 = .ok (.iload_n 0, 1) := by decide +kernel
theorem d_Sh_isLength_6 : decode prog_1_method_46_code 6 = .ok (.iconst 3, 1) := by decide +kernel
theorem d_Sh_isLength_10 : decode prog_1_method_46_code 10 = .ok (.iconst 1, 1) := by decide +kernel
theorem d_Sh_isLength_11 : decode prog_1_method_46_code 11 = .ok (.goto 4, 3) := by decide +kernel
theorem d_Sh_isLength_7 : decode prog_1_method_46_code 7 = .ok (.if_icmp .gt 7, 3) := by decide +kernel
theorem d_Sh_isLength_2 : decode prog_1_method_46_code 2 = .ok (.if_icmp .lt 12, 3) := by decide +kernel
def f_Sh_isLength (a0 : Int32) : Option (Int32) :=
  if a0 < 1 then
    (some 0)
  else
    (if 3 < a0 then
      (some 0)
    else
      (some 1))
set_option maxHeartbeats 4000000 in
set_option maxRecDepth 20000 in
theorem c_Sh_isLength (Z : ZX) {σ : Mem} {a0 : Int32} {r : Int32} (h : f_Sh_isLength a0 = some r) : CI Z 0 m_Sh_isLength [.int a0] σ r σ := by
  refine Ct.of (by decide +kernel) (Nat.le_of_ble_eq_true rfl) (fun Y => ?_)
  show V (mkB Z) Y m_Sh_isLength 0 (QP (mkB Z) Y nC 0 0 (fun v t => v = some (.int r) ∧ t = σ)) 0 0 nC σ 0 [(0, .int a0)] []
  unfold f_Sh_isLength at h
  refine V.iload_n d_Sh_isLength_0 rfl 0 rfl ?_
  refine V.iconst (v := 1) d_Sh_isLength_1 (by decide) ?_
  refine V.icmp_lt (tgt := 14) d_Sh_isLength_2 (by decide) (fun hc2 => ?_) (fun hc2 => ?_)
  · replace h := ite_t hc2 h
    refine V.iconst (v := 0) d_Sh_isLength_14 (by decide) ?_
    cases h
    exact V.zret rfl rfl d_Sh_isLength_15 ⟨rfl, rfl⟩
  · replace h := ite_f hc2 h
    refine V.iload_n d_Sh_isLength_5 rfl 0 rfl ?_
    refine V.iconst (v := 3) d_Sh_isLength_6 (by decide) ?_
    refine V.icmp_gt (tgt := 14) d_Sh_isLength_7 (by decide) (fun hc7 => ?_) (fun hc7 => ?_)
    · replace h := ite_t hc7 h
      refine V.iconst (v := 0) d_Sh_isLength_14 (by decide) ?_
      cases h
      exact V.zret rfl rfl d_Sh_isLength_15 ⟨rfl, rfl⟩
    · replace h := ite_f hc7 h
      refine V.iconst (v := 1) d_Sh_isLength_10 (by decide) ?_
      refine V.goto (tgt := 15) d_Sh_isLength_11 (by decide) ?_
      cases h
      exact V.zret rfl rfl d_Sh_isLength_15 ⟨rfl, rfl⟩
abbrev m_Sh_awning : MI := (⟨"ShadeTown", "awning", "(IIIII)I"⟩, prog_1_method_5_code, 6, (Option.some Jvm.ClassFile.FieldType.int))
theorem d_Sh_awning_0 : decode prog_1_method_5_code 0 = .ok (.iload_n 1, 1) := by decide +kernel
theorem d_Sh_awning_1 : decode prog_1_method_5_code 1 = .ok (.iload_n 2, 1) := by decide +kernel
theorem d_Sh_awning_2 : decode prog_1_method_5_code 2 = .ok (.invokestatic 119, 3) := by decide +kernel
theorem d_Sh_awning_33 : decode prog_1_method_5_code 33 = .ok (.iconst (-1), 1) := by decide +kernel
theorem d_Sh_awning_34 : decode prog_1_method_5_code 34 = .ok (.ireturn, 1) := by decide +kernel
theorem d_Sh_awning_8 : decode prog_1_method_5_code 8 = .ok (.iload_n 3, 1) := by decide +kernel
theorem d_Sh_awning_9 : decode prog_1_method_5_code 9 = .ok (.invokestatic 140, 3) := by decide +kernel
theorem k_Sh_isLength : MOk m_Sh_isLength 1 ∧ Cond.static m_Sh_isLength.1 ∈ tblG := ⟨⟨atG 732 (by decide +kernel) rfl, atG 111 (by decide +kernel) rfl, ⟨by decide, by decide⟩, by decide +kernel, by decide⟩, atG 731 (by decide +kernel) rfl⟩
theorem lk_Sh_140 : Cond.methodLink "ShadeTown" 140 ⟨"ShadeTown", "isLength", "(I)Z"⟩ ∈ tblG := atG 730 (by decide +kernel) rfl
theorem d_Sh_awning_15 : decode prog_1_method_5_code 15 = .ok (.iload 5, 2) := by decide +kernel
theorem d_Sh_awning_17 : decode prog_1_method_5_code 17 = .ok (.invokestatic 123, 3) := by decide +kernel
theorem d_Sh_awning_23 : decode prog_1_method_5_code 23 = .ok (.aload_n 0, 1) := by decide +kernel
theorem d_Sh_awning_24 : decode prog_1_method_5_code 24 = .ok (.getfield 38, 3) := by decide +kernel
theorem d_Sh_awning_27 : decode prog_1_method_5_code 27 = .ok (.invokevirtual 126, 3) := by decide +kernel
theorem d_Sh_awning_35 : decode prog_1_method_5_code 35 = .ok (.iload 4, 2) := by decide +kernel
theorem d_Sh_awning_46 : decode prog_1_method_5_code 46 = .ok (.iconst (-1), 1) := by decide +kernel
theorem d_Sh_awning_47 : decode prog_1_method_5_code 47 = .ok (.ireturn, 1) := by decide +kernel
theorem d_Sh_awning_40 : decode prog_1_method_5_code 40 = .ok (.iload 4, 2) := by decide +kernel
theorem d_Sh_awning_42 : decode prog_1_method_5_code 42 = .ok (.iconst 3, 1) := by decide +kernel
theorem d_Sh_awning_48 : decode prog_1_method_5_code 48 = .ok (.aload_n 0, 1) := by decide +kernel
theorem d_Sh_awning_49 : decode prog_1_method_5_code 49 = .ok (.getfield 54, 3) := by decide +kernel
theorem d_Sh_awning_52 : decode prog_1_method_5_code 52 = .ok (.invokevirtual 133, 3) := by decide +kernel
theorem d_Sh_awning_55 : decode prog_1_method_5_code 55 = .ok (.aload_n 0, 1) := by decide +kernel
theorem d_Sh_awning_56 : decode prog_1_method_5_code 56 = .ok (.getfield 38, 3) := by decide +kernel
theorem d_Sh_awning_59 : decode prog_1_method_5_code 59 = .ok (.iconst 2, 1) := by decide +kernel
theorem d_Sh_awning_60 : decode prog_1_method_5_code 60 = .ok (.bipush 12, 2) := by decide +kernel
theorem d_Sh_awning_62 : decode prog_1_method_5_code 62 = .ok (.iload_n 2, 1) := by decide +kernel
theorem d_Sh_awning_63 : decode prog_1_method_5_code 63 = .ok (.imul, 1) := by decide +kernel
theorem d_Sh_awning_64 : decode prog_1_method_5_code 64 = .ok (.iload_n 1, 1) := by decide +kernel
theorem d_Sh_awning_65 : decode prog_1_method_5_code 65 = .ok (.iadd, 1) := by decide +kernel
theorem d_Sh_awning_66 : decode prog_1_method_5_code 66 = .ok (.iload_n 3, 1) := by decide +kernel
theorem d_Sh_awning_67 : decode prog_1_method_5_code 67 = .ok (.iload 4, 2) := by decide +kernel
theorem d_Sh_awning_69 : decode prog_1_method_5_code 69 = .ok (.iload 5, 2) := by decide +kernel
theorem d_Sh_awning_71 : decode prog_1_method_5_code 71 = .ok (.invokevirtual 136, 3) := by decide +kernel
theorem d_Sh_awning_74 : decode prog_1_method_5_code 74 = .ok (.ireturn, 1) := by decide +kernel
theorem d_Sh_awning_43 : decode prog_1_method_5_code 43 = .ok (.if_icmp .le 5, 3) := by decide +kernel
theorem d_Sh_awning_37 : decode prog_1_method_5_code 37 = .ok (.ifCond .lt 9, 3) := by decide +kernel
theorem d_Sh_awning_30 : decode prog_1_method_5_code 30 = .ok (.ifCond .eq 5, 3) := by decide +kernel
theorem d_Sh_awning_20 : decode prog_1_method_5_code 20 = .ok (.ifCond .eq 13, 3) := by decide +kernel
theorem d_Sh_awning_12 : decode prog_1_method_5_code 12 = .ok (.ifCond .eq 21, 3) := by decide +kernel
theorem d_Sh_awning_5 : decode prog_1_method_5_code 5 = .ok (.ifCond .eq 28, 3) := by decide +kernel
def f_Sh_awning (σ : Mem) (a1 : Int32) (a2 : Int32) (a3 : Int32) (a4 : Int32) (a5 : Int32) : Option (Int32 × Mem) :=
  bnd1 (f_Sh_inTown a1 a2) fun r2 =>
  if r2 = 0 then
    (some ((-1), σ))
  else
    (bnd1 (f_Sh_isLength a3) fun r9 =>
    if r9 = 0 then
      (some ((-1), σ))
    else
      (bnd1 (f_Sh_isOwner a5) fun r17 =>
      if r17 = 0 then
        (some ((-1), σ))
      else
        (bnd1 (f_To_isFull σ) fun r27 =>
        if r27 = 0 then
          (if a4 < 0 then
            (some ((-1), σ))
          else
            (if a4 ≤ 3 then
              (bnd1 (f_Da_forgetShade σ) fun σ52 =>
              bnd2 (f_To_add σ52 2 ((12 * a2) + a1) a3 a4 a5) fun r71 σ71 =>
              some (r71, σ71))
            else
              (some ((-1), σ))))
        else
          (some ((-1), σ)))))
set_option maxHeartbeats 4000000 in
set_option maxRecDepth 20000 in
theorem c_Sh_awning (Z : ZX) {σ : Mem} {a1 : Int32} {a2 : Int32} {a3 : Int32} {a4 : Int32} {a5 : Int32} {r : Int32} {σ' : Mem} (h : f_Sh_awning σ a1 a2 a3 a4 a5 = some (r, σ')) : CI Z 1 m_Sh_awning [rf Z 0, .int a1, .int a2, .int a3, .int a4, .int a5] σ r σ' := by
  refine Ct.of (by decide +kernel) (Nat.le_of_ble_eq_true rfl) (fun Y => ?_)
  show V (mkB Z) Y m_Sh_awning 1 (QP (mkB Z) Y nC 0 0 (fun v t => v = some (.int r) ∧ t = σ')) 0 0 nC σ 0 [(0, rf Z 0), (1, .int a1), (2, .int a2), (3, .int a3), (4, .int a4), (5, .int a5)] []
  unfold f_Sh_awning at h
  refine V.iload_n d_Sh_awning_0 rfl 1 rfl ?_
  refine V.iload_n d_Sh_awning_1 rfl 2 rfl ?_
  obtain ⟨r2, h1, h⟩ := bnd1_e h
  refine V.sI (as := [.int a1, .int a2]) (st := []) (c_Sh_inTown Z h1) k_Sh_inTown lk_Sh_119 (by decide) rfl rfl (Nat.le_of_ble_eq_true rfl) d_Sh_awning_2 ?_
  refine V.if_eq (tgt := 33) d_Sh_awning_5 (by decide) (fun hc5 => ?_) (fun hc5 => ?_)
  · replace h := ite_t hc5 h
    refine V.iconst (v := (-1)) d_Sh_awning_33 (by decide) ?_
    cases h
    exact V.iret rfl d_Sh_awning_34 ⟨rfl, rfl⟩
  · replace h := ite_f hc5 h
    refine V.iload_n d_Sh_awning_8 rfl 3 rfl ?_
    obtain ⟨r9, h1, h⟩ := bnd1_e h
    refine V.sI (as := [.int a3]) (st := []) (c_Sh_isLength Z h1) k_Sh_isLength lk_Sh_140 (by decide) rfl rfl (Nat.le_of_ble_eq_true rfl) d_Sh_awning_9 ?_
    refine V.if_eq (tgt := 33) d_Sh_awning_12 (by decide) (fun hc12 => ?_) (fun hc12 => ?_)
    · replace h := ite_t hc12 h
      refine V.iconst (v := (-1)) d_Sh_awning_33 (by decide) ?_
      cases h
      exact V.iret rfl d_Sh_awning_34 ⟨rfl, rfl⟩
    · replace h := ite_f hc12 h
      refine V.iload d_Sh_awning_15 5 rfl ?_
      obtain ⟨r17, h1, h⟩ := bnd1_e h
      refine V.sI (as := [.int a5]) (st := []) (c_Sh_isOwner Z h1) k_Sh_isOwner lk_Sh_123 (by decide) rfl rfl (Nat.le_of_ble_eq_true rfl) d_Sh_awning_17 ?_
      refine V.if_eq (tgt := 33) d_Sh_awning_20 (by decide) (fun hc20 => ?_) (fun hc20 => ?_)
      · replace h := ite_t hc20 h
        refine V.iconst (v := (-1)) d_Sh_awning_33 (by decide) ?_
        cases h
        exact V.iret rfl d_Sh_awning_34 ⟨rfl, rfl⟩
      · replace h := ite_f hc20 h
        refine V.aload_n d_Sh_awning_23 rfl 0 rfl ?_
        refine V.getR (r := 19) ok_Sh fl_Sh_38 (by decide) (by decide) ly_0 rfl d_Sh_awning_24 ?_
        obtain ⟨r27, h1, h⟩ := bnd1_e h
        refine V.vI (as := []) (st := []) (c_To_isFull Z h1) k_To_isFull lk_Sh_126 (by decide) rfl (by decide) ly_19 ok_To.1 rfl (Nat.le_of_ble_eq_true rfl) d_Sh_awning_27 ?_
        refine V.if_eq (tgt := 35) d_Sh_awning_30 (by decide) (fun hc30 => ?_) (fun hc30 => ?_)
        · replace h := ite_t hc30 h
          refine V.iload d_Sh_awning_35 4 rfl ?_
          refine V.if_lt (tgt := 46) d_Sh_awning_37 (by decide) (fun hc37 => ?_) (fun hc37 => ?_)
          · replace h := ite_t hc37 h
            refine V.iconst (v := (-1)) d_Sh_awning_46 (by decide) ?_
            cases h
            exact V.iret rfl d_Sh_awning_47 ⟨rfl, rfl⟩
          · replace h := ite_f hc37 h
            refine V.iload d_Sh_awning_40 4 rfl ?_
            refine V.iconst (v := 3) d_Sh_awning_42 (by decide) ?_
            refine V.icmp_le (tgt := 48) d_Sh_awning_43 (by decide) (fun hc43 => ?_) (fun hc43 => ?_)
            · replace h := ite_t hc43 h
              refine V.aload_n d_Sh_awning_48 rfl 0 rfl ?_
              refine V.getR (r := 33) ok_Sh fl_Sh_54 (by decide) (by decide) ly_0 rfl d_Sh_awning_49 ?_
              obtain ⟨σ52, h1, h⟩ := bnd1_e h
              refine V.vN (as := []) (st := []) (c_Da_forgetShade Z h1) k_Da_forgetShade lk_Sh_133 (by decide) rfl (by decide) ly_33 ok_Da.1 rfl (Nat.le_of_ble_eq_true rfl) d_Sh_awning_52 ?_
              refine V.aload_n d_Sh_awning_55 rfl 0 rfl ?_
              refine V.getR (r := 19) ok_Sh fl_Sh_38 (by decide) (by decide) ly_0 rfl d_Sh_awning_56 ?_
              refine V.iconst (v := 2) d_Sh_awning_59 (by decide) ?_
              refine V.bipush (v := 12) d_Sh_awning_60 (by decide) ?_
              refine V.iload_n d_Sh_awning_62 rfl 2 rfl ?_
              refine V.imul d_Sh_awning_63 ?_
              refine V.iload_n d_Sh_awning_64 rfl 1 rfl ?_
              refine V.iadd d_Sh_awning_65 ?_
              refine V.iload_n d_Sh_awning_66 rfl 3 rfl ?_
              refine V.iload d_Sh_awning_67 4 rfl ?_
              refine V.iload d_Sh_awning_69 5 rfl ?_
              obtain ⟨r71, σ71, h1, h⟩ := bnd2_e h
              refine V.vI (as := [.int 2, .int ((12 * a2) + a1), .int a3, .int a4, .int a5]) (st := []) (c_To_add Z h1) k_To_add lk_Sh_136 (by decide) rfl (by decide) ly_19 ok_To.1 rfl (Nat.le_of_ble_eq_true rfl) d_Sh_awning_71 ?_
              cases h
              exact V.iret rfl d_Sh_awning_74 ⟨rfl, rfl⟩
            · replace h := ite_f hc43 h
              refine V.iconst (v := (-1)) d_Sh_awning_46 (by decide) ?_
              cases h
              exact V.iret rfl d_Sh_awning_47 ⟨rfl, rfl⟩
        · replace h := ite_f hc30 h
          refine V.iconst (v := (-1)) d_Sh_awning_33 (by decide) ?_
          cases h
          exact V.iret rfl d_Sh_awning_34 ⟨rfl, rfl⟩
abbrev m_To_takeDown : MI := (⟨"ShadeTown$Town", "takeDown", "(I)V"⟩, prog_9_method_10_code, 2, (Option.none : Option Jvm.ClassFile.FieldType))
theorem d_To_takeDown_0 : decode prog_9_method_10_code 0 = .ok (.aload_n 0, 1) := by decide +kernel
theorem d_To_takeDown_1 : decode prog_9_method_10_code 1 = .ok (.iload_n 1, 1) := by decide +kernel
theorem d_To_takeDown_2 : decode prog_9_method_10_code 2 = .ok (.invokevirtual 49, 3) := by decide +kernel
theorem d_To_takeDown_22 : decode prog_9_method_10_code 22 = .ok (.return_, 1) := by decide +kernel
theorem d_To_takeDown_8 : decode prog_9_method_10_code 8 = .ok (.aload_n 0, 1) := by decide +kernel
theorem d_To_takeDown_9 : decode prog_9_method_10_code 9 = .ok (.dup, 1) := by decide +kernel
theorem d_To_takeDown_10 : decode prog_9_method_10_code 10 = .ok (.getfield 34, 3) := by decide +kernel
theorem d_To_takeDown_13 : decode prog_9_method_10_code 13 = .ok (.iconst 1, 1) := by decide +kernel
theorem d_To_takeDown_14 : decode prog_9_method_10_code 14 = .ok (.iload_n 1, 1) := by decide +kernel
theorem d_To_takeDown_15 : decode prog_9_method_10_code 15 = .ok (.ishl, 1) := by decide +kernel
theorem d_To_takeDown_16 : decode prog_9_method_10_code 16 = .ok (.iconst (-1), 1) := by decide +kernel
theorem d_To_takeDown_17 : decode prog_9_method_10_code 17 = .ok (.ixor, 1) := by decide +kernel
theorem d_To_takeDown_18 : decode prog_9_method_10_code 18 = .ok (.iand, 1) := by decide +kernel
theorem d_To_takeDown_19 : decode prog_9_method_10_code 19 = .ok (.putfield 34, 3) := by decide +kernel
theorem d_To_takeDown_5 : decode prog_9_method_10_code 5 = .ok (.ifCond .eq 17, 3) := by decide +kernel
def f_To_takeDown (σ : Mem) (a1 : Int32) : Option (Mem) :=
  bnd1 (f_To_isCaster σ a1) fun r2 =>
  if r2 = 0 then
    (some σ)
  else
    (letv (sI σ 19 7 ((mI σ 19 7) &&& ((1 <<< (a1 &&& 31)) ^^^ (-1)))) fun σ19 =>
    some σ19)
set_option maxHeartbeats 4000000 in
set_option maxRecDepth 20000 in
theorem c_To_takeDown (Z : ZX) {σ : Mem} {a1 : Int32} {σ' : Mem} (h : f_To_takeDown σ a1 = some σ') : CN Z 1 m_To_takeDown [rf Z 19, .int a1] σ σ' := by
  refine Ct.of (by decide +kernel) (Nat.le_of_ble_eq_true rfl) (fun Y => ?_)
  show V (mkB Z) Y m_To_takeDown 1 (QP (mkB Z) Y nC 0 0 (fun v t => v = none ∧ t = σ')) 0 0 nC σ 0 [(0, rf Z 19), (1, .int a1)] []
  unfold f_To_takeDown at h
  refine V.aload_n d_To_takeDown_0 rfl 0 rfl ?_
  refine V.iload_n d_To_takeDown_1 rfl 1 rfl ?_
  obtain ⟨r2, h1, h⟩ := bnd1_e h
  refine V.vI (as := [.int a1]) (st := []) (c_To_isCaster Z h1) k_To_isCaster lk_To_49 (by decide) rfl (by decide) ly_19 ok_To.1 rfl (Nat.le_of_ble_eq_true rfl) d_To_takeDown_2 ?_
  refine V.if_eq (tgt := 22) d_To_takeDown_5 (by decide) (fun hc5 => ?_) (fun hc5 => ?_)
  · replace h := ite_t hc5 h
    cases h
    exact V.vret rfl d_To_takeDown_22 ⟨rfl, rfl⟩
  · replace h := ite_f hc5 h
    refine V.aload_n d_To_takeDown_8 rfl 0 rfl ?_
    refine V.dup d_To_takeDown_9 rfl ?_
    refine V.getI ok_To fl_To_34 (by decide) (by decide) ly_19 rfl d_To_takeDown_10 ?_
    refine V.iconst (v := 1) d_To_takeDown_13 (by decide) ?_
    refine V.iload_n d_To_takeDown_14 rfl 1 rfl ?_
    refine V.ishl d_To_takeDown_15 ?_
    refine V.iconst (v := (-1)) d_To_takeDown_16 (by decide) ?_
    refine V.ixor d_To_takeDown_17 ?_
    refine V.iand d_To_takeDown_18 ?_
    obtain ⟨σ19, e_σ19, h⟩ := letv_e h
    refine V.putI ok_To fl_To_34 (by decide) (by decide) ly_19 rfl rfl rfl rfl d_To_takeDown_19 (V.mem e_σ19 ?_)
    cases h
    exact V.vret rfl d_To_takeDown_22 ⟨rfl, rfl⟩
abbrev m_Sh_down : MI := (⟨"ShadeTown", "down", "(I)Z"⟩, prog_1_method_6_code, 2, (Option.some Jvm.ClassFile.FieldType.boolean))
theorem d_Sh_down_0 : decode prog_1_method_6_code 0 = .ok (.aload_n 0, 1) := by decide +kernel
theorem d_Sh_down_1 : decode prog_1_method_6_code 1 = .ok (.getfield 38, 3) := by decide +kernel
theorem d_Sh_down_4 : decode prog_1_method_6_code 4 = .ok (.iload_n 1, 1) := by decide +kernel
theorem d_Sh_down_5 : decode prog_1_method_6_code 5 = .ok (.invokevirtual 143, 3) := by decide +kernel
theorem lk_Sh_143 : Cond.methodLink "ShadeTown" 143 ⟨"ShadeTown$Town", "isStanding", "(I)Z"⟩ ∈ tblG := atG 737 (by decide +kernel) rfl
theorem d_Sh_down_13 : decode prog_1_method_6_code 13 = .ok (.aload_n 0, 1) := by decide +kernel
theorem d_Sh_down_14 : decode prog_1_method_6_code 14 = .ok (.getfield 38, 3) := by decide +kernel
theorem d_Sh_down_17 : decode prog_1_method_6_code 17 = .ok (.iload_n 1, 1) := by decide +kernel
theorem d_Sh_down_18 : decode prog_1_method_6_code 18 = .ok (.invokevirtual 146, 3) := by decide +kernel
theorem k_To_takeDown : MOk m_To_takeDown 1 ∧ IOk m_To_takeDown := ⟨⟨atG 741 (by decide +kernel) rfl, atG 115 (by decide +kernel) rfl, ⟨by decide, by decide⟩, by decide +kernel, by decide⟩, atG 739 (by decide +kernel) rfl, atG 740 (by decide +kernel) rfl⟩
theorem lk_Sh_146 : Cond.methodLink "ShadeTown" 146 ⟨"ShadeTown$Town", "takeDown", "(I)V"⟩ ∈ tblG := atG 738 (by decide +kernel) rfl
theorem d_Sh_down_21 : decode prog_1_method_6_code 21 = .ok (.aload_n 0, 1) := by decide +kernel
theorem d_Sh_down_22 : decode prog_1_method_6_code 22 = .ok (.getfield 54, 3) := by decide +kernel
theorem d_Sh_down_25 : decode prog_1_method_6_code 25 = .ok (.invokevirtual 133, 3) := by decide +kernel
theorem d_Sh_down_28 : decode prog_1_method_6_code 28 = .ok (.iconst 1, 1) := by decide +kernel
theorem d_Sh_down_29 : decode prog_1_method_6_code 29 = .ok (.ireturn, 1) := by decide +kernel
theorem d_Sh_down_11 : decode prog_1_method_6_code 11 = .ok (.iconst 0, 1) := by decide +kernel
theorem d_Sh_down_12 : decode prog_1_method_6_code 12 = .ok (.ireturn, 1) := by decide +kernel
theorem d_Sh_down_8 : decode prog_1_method_6_code 8 = .ok (.ifCond .ne 5, 3) := by decide +kernel
def f_Sh_down (σ : Mem) (a1 : Int32) : Option (Int32 × Mem) :=
  bnd1 (f_To_isStanding σ a1) fun r5 =>
  if r5 = 0 then
    (some (0, σ))
  else
    (bnd1 (f_To_takeDown σ a1) fun σ18 =>
    bnd1 (f_Da_forgetShade σ18) fun σ25 =>
    some (1, σ25))
set_option maxHeartbeats 4000000 in
set_option maxRecDepth 20000 in
theorem c_Sh_down (Z : ZX) {σ : Mem} {a1 : Int32} {r : Int32} {σ' : Mem} (h : f_Sh_down σ a1 = some (r, σ')) : CI Z 2 m_Sh_down [rf Z 0, .int a1] σ r σ' := by
  refine Ct.of (by decide +kernel) (Nat.le_of_ble_eq_true rfl) (fun Y => ?_)
  show V (mkB Z) Y m_Sh_down 2 (QP (mkB Z) Y nC 0 0 (fun v t => v = some (.int r) ∧ t = σ')) 0 0 nC σ 0 [(0, rf Z 0), (1, .int a1)] []
  unfold f_Sh_down at h
  refine V.aload_n d_Sh_down_0 rfl 0 rfl ?_
  refine V.getR (r := 19) ok_Sh fl_Sh_38 (by decide) (by decide) ly_0 rfl d_Sh_down_1 ?_
  refine V.iload_n d_Sh_down_4 rfl 1 rfl ?_
  obtain ⟨r5, h1, h⟩ := bnd1_e h
  refine V.vI (as := [.int a1]) (st := []) (c_To_isStanding Z h1) k_To_isStanding lk_Sh_143 (by decide) rfl (by decide) ly_19 ok_To.1 rfl (Nat.le_of_ble_eq_true rfl) d_Sh_down_5 ?_
  refine V.if_ne (tgt := 13) d_Sh_down_8 (by decide) (fun hc8 => ?_) (fun hc8 => ?_)
  · replace h := ite_f hc8 h
    refine V.aload_n d_Sh_down_13 rfl 0 rfl ?_
    refine V.getR (r := 19) ok_Sh fl_Sh_38 (by decide) (by decide) ly_0 rfl d_Sh_down_14 ?_
    refine V.iload_n d_Sh_down_17 rfl 1 rfl ?_
    obtain ⟨σ18, h1, h⟩ := bnd1_e h
    refine V.vN (as := [.int a1]) (st := []) (c_To_takeDown Z h1) k_To_takeDown lk_Sh_146 (by decide) rfl (by decide) ly_19 ok_To.1 rfl (Nat.le_of_ble_eq_true rfl) d_Sh_down_18 ?_
    refine V.aload_n d_Sh_down_21 rfl 0 rfl ?_
    refine V.getR (r := 33) ok_Sh fl_Sh_54 (by decide) (by decide) ly_0 rfl d_Sh_down_22 ?_
    obtain ⟨σ25, h1, h⟩ := bnd1_e h
    refine V.vN (as := []) (st := []) (c_Da_forgetShade Z h1) k_Da_forgetShade lk_Sh_133 (by decide) rfl (by decide) ly_33 ok_Da.1 rfl (Nat.le_of_ble_eq_true rfl) d_Sh_down_25 ?_
    refine V.iconst (v := 1) d_Sh_down_28 (by decide) ?_
    cases h
    exact V.zret rfl rfl d_Sh_down_29 ⟨rfl, rfl⟩
  · replace h := ite_t hc8 h
    refine V.iconst (v := 0) d_Sh_down_11 (by decide) ?_
    cases h
    exact V.zret rfl rfl d_Sh_down_12 ⟨rfl, rfl⟩
