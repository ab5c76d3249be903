abbrev m_Sh_storey : MI := (⟨"ShadeTown", "storey", "(II)I"⟩, prog_1_method_25_code, 6, (Option.some Jvm.ClassFile.FieldType.int))
theorem d_Sh_storey_0 : decode prog_1_method_25_code 0 = .ok (.aload_n 0, 1) := by decide +kernel
theorem d_Sh_storey_1 : decode prog_1_method_25_code 1 = .ok (.getfield 38, 3) := by decide +kernel
theorem d_Sh_storey_4 : decode prog_1_method_25_code 4 = .ok (.iload_n 1, 1) := by decide +kernel
theorem d_Sh_storey_5 : decode prog_1_method_25_code 5 = .ok (.iconst 0, 1) := by decide +kernel
theorem d_Sh_storey_6 : decode prog_1_method_25_code 6 = .ok (.invokevirtual 149, 3) := by decide +kernel
theorem kc_Sh_298 : Cond.constant "ShadeTown" 298 ((-100000)) ∈ tblG := atG 1146 (by decide +kernel) rfl
theorem d_Sh_storey_21 : decode prog_1_method_25_code 21 = .ok (.ldc_w 298, 3) := by decide +kernel
theorem d_Sh_storey_24 : decode prog_1_method_25_code 24 = .ok (.ireturn, 1) := by decide +kernel
theorem d_Sh_storey_12 : decode prog_1_method_25_code 12 = .ok (.iload_n 2, 1) := by decide +kernel
theorem d_Sh_storey_16 : decode prog_1_method_25_code 16 = .ok (.iload_n 2, 1) := by decide +kernel
theorem d_Sh_storey_17 : decode prog_1_method_25_code 17 = .ok (.iconst 1, 1) := by decide +kernel
theorem d_Sh_storey_25 : decode prog_1_method_25_code 25 = .ok (.aload_n 0, 1) := by decide +kernel
theorem d_Sh_storey_26 : decode prog_1_method_25_code 26 = .ok (.getfield 38, 3) := by decide +kernel
theorem d_Sh_storey_29 : decode prog_1_method_25_code 29 = .ok (.iload_n 1, 1) := by decide +kernel
theorem d_Sh_storey_30 : decode prog_1_method_25_code 30 = .ok (.aload_n 0, 1) := by decide +kernel
theorem d_Sh_storey_31 : decode prog_1_method_25_code 31 = .ok (.getfield 38, 3) := by decide +kernel
theorem d_Sh_storey_34 : decode prog_1_method_25_code 34 = .ok (.getfield 155, 3) := by decide +kernel
theorem d_Sh_storey_37 : decode prog_1_method_25_code 37 = .ok (.iload_n 1, 1) := by decide +kernel
theorem d_Sh_storey_38 : decode prog_1_method_25_code 38 = .ok (.iaload, 1) := by decide +kernel
theorem d_Sh_storey_39 : decode prog_1_method_25_code 39 = .ok (.bipush 99, 2) := by decide +kernel
theorem d_Sh_storey_41 : decode prog_1_method_25_code 41 = .ok (.aload_n 0, 1) := by decide +kernel
theorem d_Sh_storey_42 : decode prog_1_method_25_code 42 = .ok (.getfield 38, 3) := by decide +kernel
theorem d_Sh_storey_45 : decode prog_1_method_25_code 45 = .ok (.getfield 169, 3) := by decide +kernel
theorem d_Sh_storey_48 : decode prog_1_method_25_code 48 = .ok (.iload_n 1, 1) := by decide +kernel
theorem d_Sh_storey_49 : decode prog_1_method_25_code 49 = .ok (.iaload, 1) := by decide +kernel
theorem d_Sh_storey_50 : decode prog_1_method_25_code 50 = .ok (.bipush 12, 2) := by decide +kernel
theorem d_Sh_storey_52 : decode prog_1_method_25_code 52 = .ok (.iadd, 1) := by decide +kernel
theorem d_Sh_storey_53 : decode prog_1_method_25_code 53 = .ok (.invokestatic 299, 3) := by decide +kernel
theorem lk_Sh_299 : Cond.methodLink "ShadeTown" 299 ⟨"java/lang/Math", "min", "(II)I"⟩ ∈ tblG := atG 1147 (by decide +kernel) rfl
theorem d_Sh_storey_56 : decode prog_1_method_25_code 56 = .ok (.invokevirtual 304, 3) := by decide +kernel
theorem k_To_trial : MOk m_To_trial 3 ∧ IOk m_To_trial := ⟨⟨atG 1151 (by decide +kernel) rfl, atG 115 (by decide +kernel) rfl, ⟨by decide, by decide⟩, by decide +kernel, by decide⟩, atG 1149 (by decide +kernel) rfl, atG 1150 (by decide +kernel) rfl⟩
theorem lk_Sh_304 : Cond.methodLink "ShadeTown" 304 ⟨"ShadeTown$Town", "trial", "(III)V"⟩ ∈ tblG := atG 1148 (by decide +kernel) rfl
theorem d_Sh_storey_59 : decode prog_1_method_25_code 59 = .ok (.aload_n 0, 1) := by decide +kernel
theorem d_Sh_storey_60 : decode prog_1_method_25_code 60 = .ok (.invokevirtual 181, 3) := by decide +kernel
theorem d_Sh_storey_63 : decode prog_1_method_25_code 63 = .ok (.astore_n 3, 1) := by decide +kernel
theorem d_Sh_storey_64 : decode prog_1_method_25_code 64 = .ok (.iload_n 2, 1) := by decide +kernel
theorem d_Sh_storey_65 : decode prog_1_method_25_code 65 = .ok (.iconst 1, 1) := by decide +kernel
theorem d_Sh_storey_73 : decode prog_1_method_25_code 73 = .ok (.iconst 0, 1) := by decide +kernel
theorem d_Sh_storey_69 : decode prog_1_method_25_code 69 = .ok (.iconst 1, 1) := by decide +kernel
theorem d_Sh_storey_70 : decode prog_1_method_25_code 70 = .ok (.goto 4, 3) := by decide +kernel
theorem d_Sh_storey_66 : decode prog_1_method_25_code 66 = .ok (.if_icmp .ne 7, 3) := by decide +kernel
theorem d_Sh_storey_74 : decode prog_1_method_25_code 74 = .ok (.istore 4, 2) := by decide +kernel
theorem d_Sh_storey_76 : decode prog_1_method_25_code 76 = .ok (.aload_n 0, 1) := by decide +kernel
theorem d_Sh_storey_77 : decode prog_1_method_25_code 77 = .ok (.getfield 82, 3) := by decide +kernel
theorem d_Sh_storey_80 : decode prog_1_method_25_code 80 = .ok (.aload_n 3, 1) := by decide +kernel
theorem d_Sh_storey_81 : decode prog_1_method_25_code 81 = .ok (.iload_n 1, 1) := by decide +kernel
theorem d_Sh_storey_82 : decode prog_1_method_25_code 82 = .ok (.iload 4, 2) := by decide +kernel
theorem d_Sh_storey_84 : decode prog_1_method_25_code 84 = .ok (.invokevirtual 308, 3) := by decide +kernel
theorem k_Wi_happinessOnTrial : MOk m_Wi_happinessOnTrial 3 ∧ IOk m_Wi_happinessOnTrial := ⟨⟨atG 1155 (by decide +kernel) rfl, atG 120 (by decide +kernel) rfl, ⟨by decide, by decide⟩, by decide +kernel, by decide⟩, atG 1153 (by decide +kernel) rfl, atG 1154 (by decide +kernel) rfl⟩
theorem lk_Sh_308 : Cond.methodLink "ShadeTown" 308 ⟨"ShadeTown$Wishes", "happinessOnTrial", "(LShadeTown$Day;IZ)I"⟩ ∈ tblG := atG 1152 (by decide +kernel) rfl
theorem d_Sh_storey_87 : decode prog_1_method_25_code 87 = .ok (.aload_n 0, 1) := by decide +kernel
theorem d_Sh_storey_88 : decode prog_1_method_25_code 88 = .ok (.getfield 82, 3) := by decide +kernel
theorem d_Sh_storey_91 : decode prog_1_method_25_code 91 = .ok (.aload_n 3, 1) := by decide +kernel
theorem d_Sh_storey_92 : decode prog_1_method_25_code 92 = .ok (.iload 4, 2) := by decide +kernel
theorem d_Sh_storey_94 : decode prog_1_method_25_code 94 = .ok (.invokevirtual 294, 3) := by decide +kernel
theorem d_Sh_storey_97 : decode prog_1_method_25_code 97 = .ok (.isub, 1) := by decide +kernel
theorem d_Sh_storey_98 : decode prog_1_method_25_code 98 = .ok (.istore 5, 2) := by decide +kernel
theorem d_Sh_storey_100 : decode prog_1_method_25_code 100 = .ok (.iload 4, 2) := by decide +kernel
theorem d_Sh_storey_111 : decode prog_1_method_25_code 111 = .ok (.iload 5, 2) := by decide +kernel
theorem d_Sh_storey_113 : decode prog_1_method_25_code 113 = .ok (.ireturn, 1) := by decide +kernel
theorem d_Sh_storey_105 : decode prog_1_method_25_code 105 = .ok (.iload 5, 2) := by decide +kernel
theorem d_Sh_storey_107 : decode prog_1_method_25_code 107 = .ok (.ineg, 1) := by decide +kernel
theorem d_Sh_storey_108 : decode prog_1_method_25_code 108 = .ok (.goto 5, 3) := by decide +kernel
theorem d_Sh_storey_102 : decode prog_1_method_25_code 102 = .ok (.ifCond .eq 9, 3) := by decide +kernel
theorem d_Sh_storey_18 : decode prog_1_method_25_code 18 = .ok (.if_icmp .le 7, 3) := by decide +kernel
theorem d_Sh_storey_13 : decode prog_1_method_25_code 13 = .ok (.ifCond .lt 8, 3) := by decide +kernel
theorem d_Sh_storey_9 : decode prog_1_method_25_code 9 = .ok (.ifCond .eq 12, 3) := by decide +kernel
def f_Sh_storey (N : Nat) (σ : Mem) (a1 : Int32) (a2 : Int32) : Option (Int32 × Mem) :=
  bnd1 (f_To_isStandingOf σ a1 0) fun r6 =>
  if r6 = 0 then
    (some ((-100000), σ))
  else
    (if a2 < 0 then
      (some ((-100000), σ))
    else
      (if a2 ≤ 1 then
        (grd (inb a1 17) <|
        grd (inb a1 17) <|
        bnd1 (f_JM_min_7cf53 99 ((mI σ 22 (a1.toNatClampNeg)) + 12)) fun r53 =>
        bnd1 (f_To_trial σ a1 (mI σ 21 (a1.toNatClampNeg)) r53) fun σ56 =>
        bnd1 (f_Sh_today N σ56) fun σ60 =>
        bnd1 ((
          if a2 = 1 then
            (some 1)
          else
            (some 0)) : Option (Int32)) fun y66_s0 =>
        bnd2 (f_Wi_happinessOnTrial N σ60 a1 y66_s0) fun r84 σ84 =>
        bnd1 (f_Wi_happiness N σ84 y66_s0) fun r94 =>
        letv (r84 - r94) fun v98 =>
        if y66_s0 = 0 then
          (some (v98, σ84))
        else
          (some (-v98, σ84)))
      else
        (some ((-100000), σ))))
set_option maxHeartbeats 4000000 in
set_option maxRecDepth 20000 in
theorem c_Sh_storey (Z : ZX) {N : Nat} {σ : Mem} {a1 : Int32} {a2 : Int32} {r : Int32} {σ' : Mem} (h : f_Sh_storey N σ a1 a2 = some (r, σ')) : CI Z 6 m_Sh_storey [rf Z 0, .int a1, .int a2] σ r σ' := by
  refine Ct.of (by decide +kernel) (Nat.le_of_ble_eq_true rfl) (fun Y => ?_)
  show V (mkB Z) Y m_Sh_storey 6 (QP (mkB Z) Y nC 0 0 (fun v t => v = some (.int r) ∧ t = σ')) 0 0 nC σ 0 [(0, rf Z 0), (1, .int a1), (2, .int a2)] []
  unfold f_Sh_storey at h
  refine V.aload_n d_Sh_storey_0 rfl 0 rfl ?_
  refine V.getR (r := 19) ok_Sh fl_Sh_38 (by decide) (by decide) ly_0 rfl d_Sh_storey_1 ?_
  refine V.iload_n d_Sh_storey_4 rfl 1 rfl ?_
  refine V.iconst (v := 0) d_Sh_storey_5 (by decide) ?_
  obtain ⟨r6, h1, h⟩ := bnd1_e h
  refine V.vI (as := [.int a1, .int 0]) (st := []) (c_To_isStandingOf Z h1) k_To_isStandingOf lk_Sh_149 (by decide) rfl (by decide) ly_19 ok_To.1 rfl (Nat.le_of_ble_eq_true rfl) d_Sh_storey_6 ?_
  refine V.if_eq (tgt := 21) d_Sh_storey_9 (by decide) (fun hc9 => ?_) (fun hc9 => ?_)
  · replace h := ite_t hc9 h
    refine V.ldcw (v := (-100000)) kc_Sh_298 d_Sh_storey_21 ?_
    cases h
    exact V.iret rfl d_Sh_storey_24 ⟨rfl, rfl⟩
  · replace h := ite_f hc9 h
    refine V.iload_n d_Sh_storey_12 rfl 2 rfl ?_
    refine V.if_lt (tgt := 21) d_Sh_storey_13 (by decide) (fun hc13 => ?_) (fun hc13 => ?_)
    · replace h := ite_t hc13 h
      refine V.ldcw (v := (-100000)) kc_Sh_298 d_Sh_storey_21 ?_
      cases h
      exact V.iret rfl d_Sh_storey_24 ⟨rfl, rfl⟩
    · replace h := ite_f hc13 h
      refine V.iload_n d_Sh_storey_16 rfl 2 rfl ?_
      refine V.iconst (v := 1) d_Sh_storey_17 (by decide) ?_
      refine V.icmp_le (tgt := 25) d_Sh_storey_18 (by decide) (fun hc18 => ?_) (fun hc18 => ?_)
      · replace h := ite_t hc18 h
        refine V.aload_n d_Sh_storey_25 rfl 0 rfl ?_
        refine V.getR (r := 19) ok_Sh fl_Sh_38 (by decide) (by decide) ly_0 rfl d_Sh_storey_26 ?_
        refine V.iload_n d_Sh_storey_29 rfl 1 rfl ?_
        refine V.aload_n d_Sh_storey_30 rfl 0 rfl ?_
        refine V.getR (r := 19) ok_Sh fl_Sh_38 (by decide) (by decide) ly_0 rfl d_Sh_storey_31 ?_
        refine V.getR (r := 21) ok_To fl_Sh_155 (by decide) (by decide) ly_19 rfl d_Sh_storey_34 ?_
        refine V.iload_n d_Sh_storey_37 rfl 1 rfl ?_
        obtain ⟨gq, h⟩ := grd_e h
        refine V.ra (by decide) ly_21 (inb_e gq) rfl d_Sh_storey_38 ?_
        refine V.bipush (v := 99) d_Sh_storey_39 (by decide) ?_
        refine V.aload_n d_Sh_storey_41 rfl 0 rfl ?_
        refine V.getR (r := 19) ok_Sh fl_Sh_38 (by decide) (by decide) ly_0 rfl d_Sh_storey_42 ?_
        refine V.getR (r := 22) ok_To fl_Sh_169 (by decide) (by decide) ly_19 rfl d_Sh_storey_45 ?_
        refine V.iload_n d_Sh_storey_48 rfl 1 rfl ?_
        obtain ⟨gq, h⟩ := grd_e h
        refine V.ra (by decide) ly_22 (inb_e gq) rfl d_Sh_storey_49 ?_
        refine V.bipush (v := 12) d_Sh_storey_50 (by decide) ?_
        refine V.iadd d_Sh_storey_52 ?_
        obtain ⟨r53, h1, h⟩ := bnd1_e h
        refine V.sI (as := [.int 99, .int ((mI σ 22 (a1.toNatClampNeg)) + 12)]) (st := [.int (mI σ 21 (a1.toNatClampNeg)), .int a1, rf Z 19]) (c_JM_min_7cf53 Z h1) k_JM_min_7cf53 lk_Sh_299 (by decide) rfl rfl (Nat.le_of_ble_eq_true rfl) d_Sh_storey_53 ?_
        obtain ⟨σ56, h1, h⟩ := bnd1_e h
        refine V.vN (as := [.int a1, .int (mI σ 21 (a1.toNatClampNeg)), .int r53]) (st := []) (c_To_trial Z h1) k_To_trial lk_Sh_304 (by decide) rfl (by decide) ly_19 ok_To.1 rfl (Nat.le_of_ble_eq_true rfl) d_Sh_storey_56 ?_
        refine V.aload_n d_Sh_storey_59 rfl 0 rfl ?_
        obtain ⟨σ60, h1, h⟩ := bnd1_e h
        refine V.vA (as := []) (st := []) (c_Sh_today Z h1) k_Sh_today lk_Sh_181 (by decide) rfl (by decide) ly_0 ok_Sh.1 rfl (Nat.le_of_ble_eq_true rfl) d_Sh_storey_60 ?_
        refine V.astore_n (lv' := [(3, rf Z 33), (0, rf Z 0), (1, .int a1), (2, .int a2)]) d_Sh_storey_63 rfl (by decide) rfl ?_
        refine V.iload_n d_Sh_storey_64 rfl 3 rfl ?_
        refine V.iconst (v := 1) d_Sh_storey_65 (by decide) ?_
        obtain ⟨s66, h1, h⟩ := bnd1_e h
        have J66_74 : ∀ (y66_s0 : Int32), s66 = y66_s0 → V (mkB Z) Y m_Sh_storey 6 (QP (mkB Z) Y nC 0 0 (fun v t => v = some (.int r) ∧ t = σ')) 0 0 nC σ60 74 [(0, rf Z 0), (1, .int a1), (3, rf Z 33)] [.int y66_s0] := by
          intro y66_s0 he
          rw [he] at h
          refine V.istore (lv' := [(4, .int y66_s0), (0, rf Z 0), (1, .int a1), (3, rf Z 33)]) d_Sh_storey_74 (by decide) rfl ?_
          refine V.aload_n d_Sh_storey_76 rfl 1 rfl ?_
          refine V.getR (r := 56) ok_Sh fl_Sh_82 (by decide) (by decide) ly_0 rfl d_Sh_storey_77 ?_
          refine V.aload_n d_Sh_storey_80 rfl 3 rfl ?_
          refine V.iload_n d_Sh_storey_81 rfl 2 rfl ?_
          refine V.iload d_Sh_storey_82 0 rfl ?_
          obtain ⟨r84, σ84, h1, h⟩ := bnd2_e h
          refine V.vI (as := [rf Z 33, .int a1, .int y66_s0]) (st := []) (c_Wi_happinessOnTrial Z h1) k_Wi_happinessOnTrial lk_Sh_308 (by decide) rfl (by decide) ly_56 ok_Wi.1 rfl (Nat.le_of_ble_eq_true rfl) d_Sh_storey_84 ?_
          refine V.aload_n d_Sh_storey_87 rfl 1 rfl ?_
          refine V.getR (r := 56) ok_Sh fl_Sh_82 (by decide) (by decide) ly_0 rfl d_Sh_storey_88 ?_
          refine V.aload_n d_Sh_storey_91 rfl 3 rfl ?_
          refine V.iload d_Sh_storey_92 0 rfl ?_
          obtain ⟨r94, h1, h⟩ := bnd1_e h
          refine V.vI (as := [rf Z 33, .int y66_s0]) (st := [.int r84]) (c_Wi_happiness Z h1) k_Wi_happiness lk_Sh_294 (by decide) rfl (by decide) ly_56 ok_Wi.1 rfl (Nat.le_of_ble_eq_true rfl) d_Sh_storey_94 ?_
          refine V.isub d_Sh_storey_97 ?_
          obtain ⟨v98, e_v98, h⟩ := letv_e h
          refine V.topI e_v98 ?_
          refine V.istore (lv' := [(5, .int v98), (4, .int y66_s0), (0, rf Z 0), (1, .int a1), (3, rf Z 33)]) d_Sh_storey_98 (by decide) rfl ?_
          refine V.iload d_Sh_storey_100 1 rfl ?_
          refine V.if_eq (tgt := 111) d_Sh_storey_102 (by decide) (fun hc102 => ?_) (fun hc102 => ?_)
          · replace h := ite_t hc102 h
            refine V.iload d_Sh_storey_111 0 rfl ?_
            cases h
            exact V.iret rfl d_Sh_storey_113 ⟨rfl, rfl⟩
          · replace h := ite_f hc102 h
            refine V.iload d_Sh_storey_105 0 rfl ?_
            refine V.ineg d_Sh_storey_107 ?_
            refine V.goto (tgt := 113) d_Sh_storey_108 (by decide) ?_
            cases h
            exact V.iret rfl d_Sh_storey_113 ⟨rfl, rfl⟩
        replace h := h1
        refine V.icmp_ne (tgt := 73) d_Sh_storey_66 (by decide) (fun hc66 => ?_) (fun hc66 => ?_)
        · replace h := ite_f hc66 h
          refine V.iconst (v := 0) d_Sh_storey_73 (by decide) ?_
          exact V.pick [1, 2, 0] rfl (J66_74 _ (Option.some.inj h).symm)
        · replace h := ite_t hc66 h
          refine V.iconst (v := 1) d_Sh_storey_69 (by decide) ?_
          refine V.goto (tgt := 74) d_Sh_storey_70 (by decide) ?_
          exact V.pick [1, 2, 0] rfl (J66_74 _ (Option.some.inj h).symm)
      · replace h := ite_f hc18 h
        refine V.ldcw (v := (-100000)) kc_Sh_298 d_Sh_storey_21 ?_
        cases h
        exact V.iret rfl d_Sh_storey_24 ⟨rfl, rfl⟩
abbrev m_Wi_findGains : MI := (⟨"ShadeTown$Wishes", "findGains", "(LShadeTown$Day;)V"⟩, prog_11_method_15_code, 4, (Option.none : Option Jvm.ClassFile.FieldType))
theorem d_Wi_findGains_0 : decode prog_11_method_15_code 0 = .ok (.aload_n 0, 1) := by decide +kernel
theorem fl_Wi_32 : FL "ShadeTown$Wishes" 32 T_Wi 6 := atG 393 (by decide +kernel) rfl
theorem d_Wi_findGains_1 : decode prog_11_method_15_code 1 = .ok (.getfield 32, 3) := by decide +kernel
theorem d_Wi_findGains_4 : decode prog_11_method_15_code 4 = .ok (.iconst 0, 1) := by decide +kernel
theorem d_Wi_findGains_5 : decode prog_11_method_15_code 5 = .ok (.invokestatic 97, 3) := by decide +kernel
theorem lk_Wi_97 : Cond.methodLink "ShadeTown$Wishes" 97 ⟨"java/util/Arrays", "fill", "([II)V"⟩ ∈ tblG := atG 1177 (by decide +kernel) rfl
theorem d_Wi_findGains_8 : decode prog_11_method_15_code 8 = .ok (.iconst 0, 1) := by decide +kernel
theorem d_Wi_findGains_9 : decode prog_11_method_15_code 9 = .ok (.istore_n 2, 1) := by decide +kernel
theorem d_Wi_findGains_10 : decode prog_11_method_15_code 10 = .ok (.iload_n 2, 1) := by decide +kernel
theorem d_Wi_findGains_11 : decode prog_11_method_15_code 11 = .ok (.bipush 16, 2) := by decide +kernel
theorem d_Wi_findGains_99 : decode prog_11_method_15_code 99 = .ok (.return_, 1) := by decide +kernel
theorem d_Wi_findGains_16 : decode prog_11_method_15_code 16 = .ok (.iconst 0, 1) := by decide +kernel
theorem d_Wi_findGains_17 : decode prog_11_method_15_code 17 = .ok (.istore_n 3, 1) := by decide +kernel
theorem d_Wi_findGains_18 : decode prog_11_method_15_code 18 = .ok (.iload_n 3, 1) := by decide +kernel
theorem d_Wi_findGains_19 : decode prog_11_method_15_code 19 = .ok (.bipush 24, 2) := by decide +kernel
theorem d_Wi_findGains_24 : decode prog_11_method_15_code 24 = .ok (.aload_n 0, 1) := by decide +kernel
theorem d_Wi_findGains_25 : decode prog_11_method_15_code 25 = .ok (.aload_n 1, 1) := by decide +kernel
theorem d_Wi_findGains_26 : decode prog_11_method_15_code 26 = .ok (.iload_n 2, 1) := by decide +kernel
theorem d_Wi_findGains_27 : decode prog_11_method_15_code 27 = .ok (.iload_n 3, 1) := by decide +kernel
theorem d_Wi_findGains_28 : decode prog_11_method_15_code 28 = .ok (.invokevirtual 39, 3) := by decide +kernel
theorem d_Wi_findGains_34 : decode prog_11_method_15_code 34 = .ok (.aload_n 1, 1) := by decide +kernel
theorem d_Wi_findGains_35 : decode prog_11_method_15_code 35 = .ok (.iload_n 3, 1) := by decide +kernel
theorem d_Wi_findGains_36 : decode prog_11_method_15_code 36 = .ok (.aload_n 0, 1) := by decide +kernel
theorem d_Wi_findGains_37 : decode prog_11_method_15_code 37 = .ok (.getfield 15, 3) := by decide +kernel
theorem d_Wi_findGains_40 : decode prog_11_method_15_code 40 = .ok (.iload_n 2, 1) := by decide +kernel
theorem d_Wi_findGains_41 : decode prog_11_method_15_code 41 = .ok (.iaload, 1) := by decide +kernel
theorem d_Wi_findGains_42 : decode prog_11_method_15_code 42 = .ok (.invokevirtual 43, 3) := by decide +kernel
theorem d_Wi_findGains_48 : decode prog_11_method_15_code 48 = .ok (.aload_n 0, 1) := by decide +kernel
theorem d_Wi_findGains_49 : decode prog_11_method_15_code 49 = .ok (.getfield 32, 3) := by decide +kernel
theorem d_Wi_findGains_52 : decode prog_11_method_15_code 52 = .ok (.aload_n 0, 1) := by decide +kernel
theorem d_Wi_findGains_53 : decode prog_11_method_15_code 53 = .ok (.getfield 15, 3) := by decide +kernel
theorem d_Wi_findGains_56 : decode prog_11_method_15_code 56 = .ok (.iload_n 2, 1) := by decide +kernel
theorem d_Wi_findGains_57 : decode prog_11_method_15_code 57 = .ok (.iaload, 1) := by decide +kernel
theorem d_Wi_findGains_58 : decode prog_11_method_15_code 58 = .ok (.dup2, 1) := by decide +kernel
theorem d_Wi_findGains_59 : decode prog_11_method_15_code 59 = .ok (.iaload, 1) := by decide +kernel
theorem d_Wi_findGains_60 : decode prog_11_method_15_code 60 = .ok (.aload_n 0, 1) := by decide +kernel
theorem d_Wi_findGains_61 : decode prog_11_method_15_code 61 = .ok (.getfield 25, 3) := by decide +kernel
theorem d_Wi_findGains_64 : decode prog_11_method_15_code 64 = .ok (.iload_n 2, 1) := by decide +kernel
theorem d_Wi_findGains_65 : decode prog_11_method_15_code 65 = .ok (.baload, 1) := by decide +kernel
theorem d_Wi_findGains_79 : decode prog_11_method_15_code 79 = .ok (.aload_n 0, 1) := by decide +kernel
theorem d_Wi_findGains_80 : decode prog_11_method_15_code 80 = .ok (.getfield 29, 3) := by decide +kernel
theorem d_Wi_findGains_83 : decode prog_11_method_15_code 83 = .ok (.iload_n 2, 1) := by decide +kernel
theorem d_Wi_findGains_84 : decode prog_11_method_15_code 84 = .ok (.iaload, 1) := by decide +kernel
theorem d_Wi_findGains_69 : decode prog_11_method_15_code 69 = .ok (.aload_n 0, 1) := by decide +kernel
theorem d_Wi_findGains_70 : decode prog_11_method_15_code 70 = .ok (.getfield 29, 3) := by decide +kernel
theorem d_Wi_findGains_73 : decode prog_11_method_15_code 73 = .ok (.iload_n 2, 1) := by decide +kernel
theorem d_Wi_findGains_74 : decode prog_11_method_15_code 74 = .ok (.iaload, 1) := by decide +kernel
theorem d_Wi_findGains_75 : decode prog_11_method_15_code 75 = .ok (.ineg, 1) := by decide +kernel
theorem d_Wi_findGains_76 : decode prog_11_method_15_code 76 = .ok (.goto 9, 3) := by decide +kernel
theorem d_Wi_findGains_66 : decode prog_11_method_15_code 66 = .ok (.ifCond .eq 13, 3) := by decide +kernel
theorem d_Wi_findGains_85 : decode prog_11_method_15_code 85 = .ok (.iadd, 1) := by decide +kernel
theorem d_Wi_findGains_86 : decode prog_11_method_15_code 86 = .ok (.iastore, 1) := by decide +kernel
theorem d_Wi_findGains_45 : decode prog_11_method_15_code 45 = .ok (.ifCond .ne 42, 3) := by decide +kernel
theorem d_Wi_findGains_31 : decode prog_11_method_15_code 31 = .ok (.ifCond .eq 56, 3) := by decide +kernel
theorem d_Wi_findGains_87 : decode prog_11_method_15_code 87 = .ok (.iinc 3 1, 3) := by decide +kernel
theorem d_Wi_findGains_90 : decode prog_11_method_15_code 90 = .ok (.goto (-72), 3) := by decide +kernel
theorem d_Wi_findGains_21 : decode prog_11_method_15_code 21 = .ok (.if_icmp .ge 72, 3) := by decide +kernel
theorem d_Wi_findGains_93 : decode prog_11_method_15_code 93 = .ok (.iinc 2 1, 3) := by decide +kernel
theorem d_Wi_findGains_96 : decode prog_11_method_15_code 96 = .ok (.goto (-86), 3) := by decide +kernel
theorem d_Wi_findGains_13 : decode prog_11_method_15_code 13 = .ok (.if_icmp .ge 86, 3) := by decide +kernel
def B_Wi_findGains_l18 (N : Nat) (a2 : Int32) (rec : Int32 → Mem → Option (Mem)) (x3 : Int32) (σ : Mem) : Option (Mem) :=
  if 24 ≤ x3 then
    (some σ)
  else
    (bnd1 (f_Wi_isAsked σ a2 x3) fun r28 =>
    bnd1 ((
      if r28 = 0 then
        (some σ)
      else
        (grd (inb a2 16) <|
        bnd1 (f_Da_whoCasts σ x3 (mI σ 57 (a2.toNatClampNeg))) fun r42 =>
        if r42 = 0 then
          (grd (inb a2 16) <|
          letv (mI σ 57 (a2.toNatClampNeg)) fun v58 =>
          grd (inb v58 144) <|
          grd (inb a2 16) <|
          bnd1 ((
            if (mI σ 60 (a2.toNatClampNeg)) = 0 then
              (grd (inb a2 16) <|
              some (mI σ 61 (a2.toNatClampNeg)))
            else
              (grd (inb a2 16) <|
              some (-(mI σ 61 (a2.toNatClampNeg))))) : Option (Int32)) fun y66_s3 =>
          grd (inb v58 144) <|
          letv (sI σ 62 (v58.toNatClampNeg) ((mI σ 62 (v58.toNatClampNeg)) + y66_s3)) fun σ86 =>
          some σ86)
        else
          (some σ))) : Option (Mem)) fun σ31_ =>
    letv (x3 + 1) fun v87 =>
    rec v87 σ31_)
def L_Wi_findGains_l18 (N : Nat) (a2 : Int32) : Nat → Int32 → Mem → Option (Mem)
  | 0, _, _ => none
  | k + 1, x3, σ => B_Wi_findGains_l18 N a2 (L_Wi_findGains_l18 N a2 k) x3 σ
set_option maxHeartbeats 4000000 in
set_option maxRecDepth 20000 in
theorem cL_Wi_findGains_l18 (Z : ZX) {Y : YX} {Q : State → Prop} {N : Nat} {a2 : Int32} {Good : Mem → Prop} (hE : ∀ (σe : Mem), Good σe → V (mkB Z) Y m_Wi_findGains 3 Q 0 0 nC σe 93 [(0, rf Z 56), (1, rf Z 33), (2, .int a2)] []) : ∀ (k : Nat) (x3 : Int32) (σ : Mem) (res : Mem), L_Wi_findGains_l18 N a2 k x3 σ = some res → Good res → V (mkB Z) Y m_Wi_findGains 3 Q 0 0 nC σ 18 [(0, rf Z 56), (1, rf Z 33), (2, .int a2), (3, .int x3)] [] := by
  intro k
  induction k with
  | zero => intro x3 σ res h; cases h
  | succ k ih =>
    intro x3 σ res h hg
    replace h : B_Wi_findGains_l18 N a2 (L_Wi_findGains_l18 N a2 k) x3 σ = some res := h
    unfold B_Wi_findGains_l18 at h
    refine V.iload_n d_Wi_findGains_18 rfl 3 rfl ?_
    refine V.bipush (v := 24) d_Wi_findGains_19 (by decide) ?_
    refine V.icmp_ge (tgt := 93) d_Wi_findGains_21 (by decide) (fun hc21 => ?_) (fun hc21 => ?_)
    · replace h := ite_t hc21 h
      cases h
      exact V.pick [0, 1, 2] rfl (hE _ hg)
    · replace h := ite_f hc21 h
      refine V.aload_n d_Wi_findGains_24 rfl 0 rfl ?_
      refine V.aload_n d_Wi_findGains_25 rfl 1 rfl ?_
      refine V.iload_n d_Wi_findGains_26 rfl 2 rfl ?_
      refine V.iload_n d_Wi_findGains_27 rfl 3 rfl ?_
      obtain ⟨r28, h1, h⟩ := bnd1_e h
      refine V.vI (as := [rf Z 33, .int a2, .int x3]) (st := []) (c_Wi_isAsked Z h1) k_Wi_isAsked lk_Wi_39 (by decide) rfl (by decide) ly_56 ok_Wi.1 rfl (Nat.le_of_ble_eq_true rfl) d_Wi_findGains_28 ?_
      obtain ⟨s31, h1, h⟩ := bnd1_e h
      have J31_87 : ∀ (σ31_ : Mem), s31 = σ31_ → V (mkB Z) Y m_Wi_findGains 3 Q 0 0 nC σ31_ 87 [(0, rf Z 56), (1, rf Z 33), (2, .int a2), (3, .int x3)] [] := by
        intro σ31_ he
        rw [he] at h
        obtain ⟨v87, e_v87, h⟩ := letv_e h
        refine V.iinc (v := v87) (lv' := [(3, .int v87), (0, rf Z 56), (1, rf Z 33), (2, .int a2)]) d_Wi_findGains_87 3 rfl (by rw [e_v87]; rfl) (by decide) rfl ?_
        refine V.goto (tgt := 18) d_Wi_findGains_90 (by decide) ?_
        exact V.pick [1, 2, 3, 0] rfl (ih _ _ _ h hg)
      replace h := h1
      refine V.if_eq (tgt := 87) d_Wi_findGains_31 (by decide) (fun hc31 => ?_) (fun hc31 => ?_)
      · replace h := ite_t hc31 h
        exact V.pick [0, 1, 2, 3] rfl (J31_87 _ (Option.some.inj h).symm)
      · replace h := ite_f hc31 h
        refine V.aload_n d_Wi_findGains_34 rfl 1 rfl ?_
        refine V.iload_n d_Wi_findGains_35 rfl 3 rfl ?_
        refine V.aload_n d_Wi_findGains_36 rfl 0 rfl ?_
        refine V.getR (r := 57) ok_Wi fl_Wi_15 (by decide) (by decide) ly_56 rfl d_Wi_findGains_37 ?_
        refine V.iload_n d_Wi_findGains_40 rfl 2 rfl ?_
        obtain ⟨gq, h⟩ := grd_e h
        refine V.ra (by decide) ly_57 (inb_e gq) rfl d_Wi_findGains_41 ?_
        obtain ⟨r42, h1, h⟩ := bnd1_e h
        refine V.vI (as := [.int x3, .int (mI σ 57 (a2.toNatClampNeg))]) (st := []) (c_Da_whoCasts Z h1) k_Da_whoCasts lk_Wi_43 (by decide) rfl (by decide) ly_33 ok_Da.1 rfl (Nat.le_of_ble_eq_true rfl) d_Wi_findGains_42 ?_
        refine V.if_ne (tgt := 87) d_Wi_findGains_45 (by decide) (fun hc45 => ?_) (fun hc45 => ?_)
        · replace h := ite_f hc45 h
          exact V.pick [0, 1, 2, 3] rfl (J31_87 _ (Option.some.inj h).symm)
        · replace h := ite_t hc45 h
          refine V.aload_n d_Wi_findGains_48 rfl 0 rfl ?_
          refine V.getR (r := 62) ok_Wi fl_Wi_32 (by decide) (by decide) ly_56 rfl d_Wi_findGains_49 ?_
          refine V.aload_n d_Wi_findGains_52 rfl 0 rfl ?_
          refine V.getR (r := 57) ok_Wi fl_Wi_15 (by decide) (by decide) ly_56 rfl d_Wi_findGains_53 ?_
          refine V.iload_n d_Wi_findGains_56 rfl 2 rfl ?_
          obtain ⟨gq, h⟩ := grd_e h
          refine V.ra (by decide) ly_57 (inb_e gq) rfl d_Wi_findGains_57 ?_
          obtain ⟨v58, e_v58, h⟩ := letv_e h
          refine V.topI e_v58 ?_
          refine V.dup2 d_Wi_findGains_58 rfl rfl ?_
          obtain ⟨gq, h⟩ := grd_e h
          refine V.ra (by decide) ly_62 (inb_e gq) rfl d_Wi_findGains_59 ?_
          refine V.aload_n d_Wi_findGains_60 rfl 0 rfl ?_
          refine V.getR (r := 60) ok_Wi fl_Wi_25 (by decide) (by decide) ly_56 rfl d_Wi_findGains_61 ?_
          refine V.iload_n d_Wi_findGains_64 rfl 2 rfl ?_
          obtain ⟨gq, h⟩ := grd_e h
          refine V.rz (by decide) ly_60 (inb_e gq) rfl d_Wi_findGains_65 ?_
          obtain ⟨s66, h1, h⟩ := bnd1_e h
          have J66_85 : ∀ (y66_s3 : Int32), s66 = y66_s3 → V (mkB Z) Y m_Wi_findGains 3 Q 0 0 nC σ 85 [(0, rf Z 56), (1, rf Z 33), (2, .int a2), (3, .int x3)] [.int y66_s3, .int (mI σ 62 (v58.toNatClampNeg)), .int v58, rf Z 62] := by
            intro y66_s3 he
            rw [he] at h
            refine V.iadd d_Wi_findGains_85 ?_
            obtain ⟨gq, h⟩ := grd_e h
            obtain ⟨σ86, e_σ86, h⟩ := letv_e h
            refine V.wa (by decide) ly_62 (inb_e gq) rfl d_Wi_findGains_86 e_σ86 ?_
            exact V.pick [0, 1, 2, 3] rfl (J31_87 _ (Option.some.inj h).symm)
          replace h := h1
          refine V.if_eq (tgt := 79) d_Wi_findGains_66 (by decide) (fun hc66 => ?_) (fun hc66 => ?_)
          · replace h := ite_t hc66 h
            refine V.aload_n d_Wi_findGains_79 rfl 0 rfl ?_
            refine V.getR (r := 61) ok_Wi fl_Wi_29 (by decide) (by decide) ly_56 rfl d_Wi_findGains_80 ?_
            refine V.iload_n d_Wi_findGains_83 rfl 2 rfl ?_
            obtain ⟨gq, h⟩ := grd_e h
            refine V.ra (by decide) ly_61 (inb_e gq) rfl d_Wi_findGains_84 ?_
            exact V.pick [0, 1, 2, 3] rfl (J66_85 _ (Option.some.inj h).symm)
          · replace h := ite_f hc66 h
            refine V.aload_n d_Wi_findGains_69 rfl 0 rfl ?_
            refine V.getR (r := 61) ok_Wi fl_Wi_29 (by decide) (by decide) ly_56 rfl d_Wi_findGains_70 ?_
            refine V.iload_n d_Wi_findGains_73 rfl 2 rfl ?_
            obtain ⟨gq, h⟩ := grd_e h
            refine V.ra (by decide) ly_61 (inb_e gq) rfl d_Wi_findGains_74 ?_
            refine V.ineg d_Wi_findGains_75 ?_
            refine V.goto (tgt := 85) d_Wi_findGains_76 (by decide) ?_
            exact V.pick [0, 1, 2, 3] rfl (J66_85 _ (Option.some.inj h).symm)
def B_Wi_findGains_l10 (N : Nat) (rec : Int32 → Mem → Option (Mem)) (x2 : Int32) (σ : Mem) : Option (Mem) :=
  if 16 ≤ x2 then
    (some σ)
  else
    (bnd1 (L_Wi_findGains_l18 N x2 N 0 σ) fun σ18_ =>
    letv (x2 + 1) fun v93 =>
    rec v93 σ18_)
def L_Wi_findGains_l10 (N : Nat) : Nat → Int32 → Mem → Option (Mem)
  | 0, _, _ => none
  | k + 1, x2, σ => B_Wi_findGains_l10 N (L_Wi_findGains_l10 N k) x2 σ
set_option maxHeartbeats 4000000 in
set_option maxRecDepth 20000 in
theorem cL_Wi_findGains_l10 (Z : ZX) {Y : YX} {post : Option Value → Mem → Prop} {N : Nat} {Good : Mem → Prop} (hR : ∀ (σr : Mem), Good σr → post none σr) : ∀ (k : Nat) (x2 : Int32) (σ : Mem) (res : Mem), L_Wi_findGains_l10 N k x2 σ = some res → Good res → V (mkB Z) Y m_Wi_findGains 3 (QP (mkB Z) Y nC 0 0 post) 0 0 nC σ 10 [(0, rf Z 56), (1, rf Z 33), (2, .int x2)] [] := by
  intro k
  induction k with
  | zero => intro x2 σ res h; cases h
  | succ k ih =>
    intro x2 σ res h hg
    replace h : B_Wi_findGains_l10 N (L_Wi_findGains_l10 N k) x2 σ = some res := h
    unfold B_Wi_findGains_l10 at h
    refine V.iload_n d_Wi_findGains_10 rfl 2 rfl ?_
    refine V.bipush (v := 16) d_Wi_findGains_11 (by decide) ?_
    refine V.icmp_ge (tgt := 99) d_Wi_findGains_13 (by decide) (fun hc13 => ?_) (fun hc13 => ?_)
    · replace h := ite_t hc13 h
      cases h
      exact V.vret rfl d_Wi_findGains_99 (hR _ hg)
    · replace h := ite_f hc13 h
      refine V.iconst (v := 0) d_Wi_findGains_16 (by decide) ?_
      refine V.istore_n (lv' := [(3, .int 0), (0, rf Z 56), (1, rf Z 33), (2, .int x2)]) d_Wi_findGains_17 rfl (by decide) rfl ?_
      obtain ⟨x18_, h1, h⟩ := bnd1_e h
      refine V.pick [1, 2, 3, 0] rfl (cL_Wi_findGains_l18 Z (Good := fun z => x18_ = z) (fun σ18_ he => ?_) N _ _ _ h1 rfl)
      · rw [he] at h
        obtain ⟨v93, e_v93, h⟩ := letv_e h
        refine V.iinc (v := v93) (lv' := [(2, .int v93), (0, rf Z 56), (1, rf Z 33)]) d_Wi_findGains_93 2 rfl (by rw [e_v93]; rfl) (by decide) rfl ?_
        refine V.goto (tgt := 10) d_Wi_findGains_96 (by decide) ?_
        exact V.pick [1, 2, 0] rfl (ih _ _ _ h hg)
def f_Wi_findGains (N : Nat) (σ : Mem) : Option (Mem) :=
  bnd1 (f_JA_fill_53178 N σ 62 144 0) fun σ5 =>
  L_Wi_findGains_l10 N N 0 σ5
set_option maxHeartbeats 4000000 in
set_option maxRecDepth 20000 in
theorem c_Wi_findGains (Z : ZX) {N : Nat} {σ : Mem} {σ' : Mem} (h : f_Wi_findGains N σ = some σ') : CN Z 3 m_Wi_findGains [rf Z 56, rf Z 33] σ σ' := by
  refine Ct.of (by decide +kernel) (Nat.le_of_ble_eq_true rfl) (fun Y => ?_)
  show V (mkB Z) Y m_Wi_findGains 3 (QP (mkB Z) Y nC 0 0 (fun v t => v = none ∧ t = σ')) 0 0 nC σ 0 [(0, rf Z 56), (1, rf Z 33)] []
  unfold f_Wi_findGains at h
  refine V.aload_n d_Wi_findGains_0 rfl 0 rfl ?_
  refine V.getR (r := 62) ok_Wi fl_Wi_32 (by decide) (by decide) ly_56 rfl d_Wi_findGains_1 ?_
  refine V.iconst (v := 0) d_Wi_findGains_4 (by decide) ?_
  obtain ⟨σ5, h1, h⟩ := bnd1_e h
  refine V.sN (as := [rf Z 62, .int 0]) (st := []) (c_JA_fill_53178 Z (by decide) ly_62 h1) k_JA_fill_53178 lk_Wi_97 (by decide) rfl rfl (Nat.le_of_ble_eq_true rfl) d_Wi_findGains_5 ?_
  refine V.iconst (v := 0) d_Wi_findGains_8 (by decide) ?_
  refine V.istore_n (lv' := [(2, .int 0), (0, rf Z 56), (1, rf Z 33)]) d_Wi_findGains_9 rfl (by decide) rfl ?_
  refine V.pick [1, 2, 0] rfl (cL_Wi_findGains_l10 Z (Good := fun z => z = _) (fun r10m he => ?_) N _ _ _ h rfl)
  · cases he
    exact ⟨rfl, rfl⟩
abbrev m_Wi_gainOfAwning : MI := (⟨"ShadeTown$Wishes", "gainOfAwning", "(III)I"⟩, prog_11_method_10_code, 7, (Option.some Jvm.ClassFile.FieldType.int))
theorem d_Wi_gainOfAwning_0 : decode prog_11_method_10_code 0 = .ok (.iconst 0, 1) := by decide +kernel
theorem d_Wi_gainOfAwning_1 : decode prog_11_method_10_code 1 = .ok (.istore 4, 2) := by decide +kernel
theorem d_Wi_gainOfAwning_3 : decode prog_11_method_10_code 3 = .ok (.iload_n 1, 1) := by decide +kernel
theorem d_Wi_gainOfAwning_4 : decode prog_11_method_10_code 4 = .ok (.istore 5, 2) := by decide +kernel
theorem d_Wi_gainOfAwning_6 : decode prog_11_method_10_code 6 = .ok (.iconst 0, 1) := by decide +kernel
theorem d_Wi_gainOfAwning_7 : decode prog_11_method_10_code 7 = .ok (.istore 6, 2) := by decide +kernel
theorem d_Wi_gainOfAwning_9 : decode prog_11_method_10_code 9 = .ok (.iload 6, 2) := by decide +kernel
theorem d_Wi_gainOfAwning_11 : decode prog_11_method_10_code 11 = .ok (.iload_n 3, 1) := by decide +kernel
theorem d_Wi_gainOfAwning_15 : decode prog_11_method_10_code 15 = .ok (.iload 5, 2) := by decide +kernel
theorem d_Wi_gainOfAwning_20 : decode prog_11_method_10_code 20 = .ok (.iload 5, 2) := by decide +kernel
theorem d_Wi_gainOfAwning_22 : decode prog_11_method_10_code 22 = .ok (.sipush 144, 3) := by decide +kernel
theorem d_Wi_gainOfAwning_28 : decode prog_11_method_10_code 28 = .ok (.iload 4, 2) := by decide +kernel
theorem d_Wi_gainOfAwning_30 : decode prog_11_method_10_code 30 = .ok (.aload_n 0, 1) := by decide +kernel
theorem d_Wi_gainOfAwning_31 : decode prog_11_method_10_code 31 = .ok (.getfield 32, 3) := by decide +kernel
theorem d_Wi_gainOfAwning_34 : decode prog_11_method_10_code 34 = .ok (.iload 5, 2) := by decide +kernel
theorem d_Wi_gainOfAwning_36 : decode prog_11_method_10_code 36 = .ok (.iaload, 1) := by decide +kernel
theorem d_Wi_gainOfAwning_37 : decode prog_11_method_10_code 37 = .ok (.iadd, 1) := by decide +kernel
theorem d_Wi_gainOfAwning_38 : decode prog_11_method_10_code 38 = .ok (.istore 4, 2) := by decide +kernel
theorem d_Wi_gainOfAwning_40 : decode prog_11_method_10_code 40 = .ok (.iload 5, 2) := by decide +kernel
theorem d_Wi_gainOfAwning_42 : decode prog_11_method_10_code 42 = .ok (.iload_n 2, 1) := by decide +kernel
theorem d_Wi_gainOfAwning_43 : decode prog_11_method_10_code 43 = .ok (.invokestatic 75, 3) := by decide +kernel
theorem ln_Wi_75 : Cond.methodLinkNest "ShadeTown$Wishes" 75 ⟨"ShadeTown", "beside", "(II)I"⟩ "ShadeTown" ∈ nestW := List.mem_of_getElem? (i := 13) rfl
theorem d_Wi_gainOfAwning_46 : decode prog_11_method_10_code 46 = .ok (.istore 5, 2) := by decide +kernel
theorem d_Wi_gainOfAwning_48 : decode prog_11_method_10_code 48 = .ok (.iinc 6 1, 3) := by decide +kernel
theorem d_Wi_gainOfAwning_51 : decode prog_11_method_10_code 51 = .ok (.goto (-42), 3) := by decide +kernel
theorem d_Wi_gainOfAwning_25 : decode prog_11_method_10_code 25 = .ok (.if_icmp .ge 29, 3) := by decide +kernel
theorem d_Wi_gainOfAwning_17 : decode prog_11_method_10_code 17 = .ok (.ifCond .lt 37, 3) := by decide +kernel
theorem d_Wi_gainOfAwning_12 : decode prog_11_method_10_code 12 = .ok (.if_icmp .ge 42, 3) := by decide +kernel
theorem d_Wi_gainOfAwning_54 : decode prog_11_method_10_code 54 = .ok (.iload 4, 2) := by decide +kernel
theorem d_Wi_gainOfAwning_56 : decode prog_11_method_10_code 56 = .ok (.ireturn, 1) := by decide +kernel
def B_Wi_gainOfAwning_l9 (N : Nat) (a2 : Int32) (a3 : Int32) (σ : Mem) (rec : Int32 → Int32 → Int32 → Option (Int32)) (x4 : Int32) (x5 : Int32) (x6 : Int32) : Option (Int32) :=
  if a3 ≤ x6 then
    (some x4)
  else
    (if x5 < 0 then
      (some x4)
    else
      (if 144 ≤ x5 then
        (some x4)
      else
        (grd (inb x5 144) <|
        letv (x4 + (mI σ 62 (x5.toNatClampNeg))) fun v38 =>
        bnd1 (f_Sh_beside x5 a2) fun r43 =>
        letv (x6 + 1) fun v48 =>
        rec v38 r43 v48)))
def L_Wi_gainOfAwning_l9 (N : Nat) (a2 : Int32) (a3 : Int32) (σ : Mem) : Nat → Int32 → Int32 → Int32 → Option (Int32)
  | 0, _, _, _ => none
  | k + 1, x4, x5, x6 => B_Wi_gainOfAwning_l9 N a2 a3 σ (L_Wi_gainOfAwning_l9 N a2 a3 σ k) x4 x5 x6
set_option maxHeartbeats 4000000 in
set_option maxRecDepth 20000 in
theorem cL_Wi_gainOfAwning_l9 (Z : ZX) {Y : YX} {Q : State → Prop} {N : Nat} {a2 : Int32} {a3 : Int32} {σ : Mem} {Good : Int32 → Prop} (hE : ∀ (o4 : Int32), Good o4 → V (mkB Z) Y m_Wi_gainOfAwning 2 Q 0 0 nC σ 54 [(4, .int o4)] []) : ∀ (k : Nat) (x4 : Int32) (x5 : Int32) (x6 : Int32) (res : Int32), L_Wi_gainOfAwning_l9 N a2 a3 σ k x4 x5 x6 = some res → Good res → V (mkB Z) Y m_Wi_gainOfAwning 2 Q 0 0 nC σ 9 [(0, rf Z 56), (2, .int a2), (3, .int a3), (4, .int x4), (5, .int x5), (6, .int x6)] [] := by
  intro k
  induction k with
  | zero => intro x4 x5 x6 res h; cases h
  | succ k ih =>
    intro x4 x5 x6 res h hg
    replace h : B_Wi_gainOfAwning_l9 N a2 a3 σ (L_Wi_gainOfAwning_l9 N a2 a3 σ k) x4 x5 x6 = some res := h
    unfold B_Wi_gainOfAwning_l9 at h
    refine V.iload d_Wi_gainOfAwning_9 5 rfl ?_
    refine V.iload_n d_Wi_gainOfAwning_11 rfl 2 rfl ?_
    refine V.icmp_ge (tgt := 54) d_Wi_gainOfAwning_12 (by decide) (fun hc12 => ?_) (fun hc12 => ?_)
    · replace h := ite_t hc12 h
      cases h
      exact V.pick [3] rfl (hE _ hg)
    · replace h := ite_f hc12 h
      refine V.iload d_Wi_gainOfAwning_15 4 rfl ?_
      refine V.if_lt (tgt := 54) d_Wi_gainOfAwning_17 (by decide) (fun hc17 => ?_) (fun hc17 => ?_)
      · replace h := ite_t hc17 h
        cases h
        exact V.pick [3] rfl (hE _ hg)
      · replace h := ite_f hc17 h
        refine V.iload d_Wi_gainOfAwning_20 4 rfl ?_
        refine V.sipush (v := 144) d_Wi_gainOfAwning_22 (by decide) ?_
        refine V.icmp_ge (tgt := 54) d_Wi_gainOfAwning_25 (by decide) (fun hc25 => ?_) (fun hc25 => ?_)
        · replace h := ite_t hc25 h
          cases h
          exact V.pick [3] rfl (hE _ hg)
        · replace h := ite_f hc25 h
          refine V.iload d_Wi_gainOfAwning_28 3 rfl ?_
          refine V.aload_n d_Wi_gainOfAwning_30 rfl 0 rfl ?_
          refine V.getR (r := 62) ok_Wi fl_Wi_32 (by decide) (by decide) ly_56 rfl d_Wi_gainOfAwning_31 ?_
          refine V.iload d_Wi_gainOfAwning_34 4 rfl ?_
          obtain ⟨gq, h⟩ := grd_e h
          refine V.ra (by decide) ly_62 (inb_e gq) rfl d_Wi_gainOfAwning_36 ?_
          refine V.iadd d_Wi_gainOfAwning_37 ?_
          obtain ⟨v38, e_v38, h⟩ := letv_e h
          refine V.topI e_v38 ?_
          refine V.istore (lv' := [(4, .int v38), (0, rf Z 56), (2, .int a2), (3, .int a3), (5, .int x5), (6, .int x6)]) d_Wi_gainOfAwning_38 (by decide) rfl ?_
          refine V.iload d_Wi_gainOfAwning_40 4 rfl ?_
          refine V.iload_n d_Wi_gainOfAwning_42 rfl 2 rfl ?_
          obtain ⟨r43, h1, h⟩ := bnd1_e h
          refine V.tI (as := [.int x5, .int a2]) (st := []) (c_Sh_beside Z h1) k_Sh_beside ln_Wi_75 (by decide) rfl rfl (Nat.le_of_ble_eq_true rfl) d_Wi_gainOfAwning_43 ?_
          refine V.istore (lv' := [(5, .int r43), (4, .int v38), (0, rf Z 56), (2, .int a2), (3, .int a3), (6, .int x6)]) d_Wi_gainOfAwning_46 (by decide) rfl ?_
          obtain ⟨v48, e_v48, h⟩ := letv_e h
          refine V.iinc (v := v48) (lv' := [(6, .int v48), (5, .int r43), (4, .int v38), (0, rf Z 56), (2, .int a2), (3, .int a3)]) d_Wi_gainOfAwning_48 5 rfl (by rw [e_v48]; rfl) (by decide) rfl ?_
          refine V.goto (tgt := 9) d_Wi_gainOfAwning_51 (by decide) ?_
          exact V.pick [3, 4, 5, 2, 1, 0] rfl (ih _ _ _ _ h hg)
def f_Wi_gainOfAwning (N : Nat) (σ : Mem) (a1 : Int32) (a2 : Int32) (a3 : Int32) : Option (Int32) :=
  bnd1 (L_Wi_gainOfAwning_l9 N a2 a3 σ N 0 a1 0) fun z9_4 =>
  some z9_4
set_option maxHeartbeats 4000000 in
set_option maxRecDepth 20000 in
theorem c_Wi_gainOfAwning (Z : ZX) {N : Nat} {σ : Mem} {a1 : Int32} {a2 : Int32} {a3 : Int32} {r : Int32} (h : f_Wi_gainOfAwning N σ a1 a2 a3 = some r) : CI Z 2 m_Wi_gainOfAwning [rf Z 56, .int a1, .int a2, .int a3] σ r σ := by
  refine Ct.of (by decide +kernel) (Nat.le_of_ble_eq_true rfl) (fun Y => ?_)
  show V (mkB Z) Y m_Wi_gainOfAwning 2 (QP (mkB Z) Y nC 0 0 (fun v t => v = some (.int r) ∧ t = σ)) 0 0 nC σ 0 [(0, rf Z 56), (1, .int a1), (2, .int a2), (3, .int a3)] []
  unfold f_Wi_gainOfAwning at h
  refine V.iconst (v := 0) d_Wi_gainOfAwning_0 (by decide) ?_
  refine V.istore (lv' := [(4, .int 0), (0, rf Z 56), (1, .int a1), (2, .int a2), (3, .int a3)]) d_Wi_gainOfAwning_1 (by decide) rfl ?_
  refine V.iload_n d_Wi_gainOfAwning_3 rfl 2 rfl ?_
  refine V.istore (lv' := [(5, .int a1), (4, .int 0), (0, rf Z 56), (1, .int a1), (2, .int a2), (3, .int a3)]) d_Wi_gainOfAwning_4 (by decide) rfl ?_
  refine V.iconst (v := 0) d_Wi_gainOfAwning_6 (by decide) ?_
  refine V.istore (lv' := [(6, .int 0), (5, .int a1), (4, .int 0), (0, rf Z 56), (1, .int a1), (2, .int a2), (3, .int a3)]) d_Wi_gainOfAwning_7 (by decide) rfl ?_
  obtain ⟨x9_, h1, h⟩ := bnd1_e h
  refine V.pick [3, 5, 6, 2, 1, 0] rfl (cL_Wi_gainOfAwning_l9 Z (Good := fun z => x9_ = z) (fun z9_4 he => ?_) N _ _ _ _ h1 rfl)
  · rw [he] at h
    refine V.iload d_Wi_gainOfAwning_54 0 rfl ?_
    cases h
    exact V.iret rfl d_Wi_gainOfAwning_56 ⟨rfl, rfl⟩
abbrev m_Wi_bestAwningOf : MI := (⟨"ShadeTown$Wishes", "bestAwningOf", "(LShadeTown$Day;I)I"⟩, prog_11_method_9_code, 8, (Option.some Jvm.ClassFile.FieldType.int))
theorem d_Wi_bestAwningOf_0 : decode prog_11_method_9_code 0 = .ok (.aload_n 0, 1) := by decide +kernel
theorem d_Wi_bestAwningOf_1 : decode prog_11_method_9_code 1 = .ok (.aload_n 1, 1) := by decide +kernel
theorem d_Wi_bestAwningOf_2 : decode prog_11_method_9_code 2 = .ok (.invokevirtual 64, 3) := by decide +kernel
theorem k_Wi_findGains : MOk m_Wi_findGains 1 ∧ IOk m_Wi_findGains := ⟨⟨atG 1176 (by decide +kernel) rfl, atG 120 (by decide +kernel) rfl, ⟨by decide, by decide⟩, by decide +kernel, by decide⟩, atG 1175 (by decide +kernel) rfl, atG 35 (by decide +kernel) rfl⟩
theorem lk_Wi_64 : Cond.methodLink "ShadeTown$Wishes" 64 ⟨"ShadeTown$Wishes", "findGains", "(LShadeTown$Day;)V"⟩ ∈ tblG := atG 1173 (by decide +kernel) rfl
theorem d_Wi_bestAwningOf_5 : decode prog_11_method_9_code 5 = .ok (.iconst (-1), 1) := by decide +kernel
theorem d_Wi_bestAwningOf_6 : decode prog_11_method_9_code 6 = .ok (.istore_n 3, 1) := by decide +kernel
theorem d_Wi_bestAwningOf_7 : decode prog_11_method_9_code 7 = .ok (.iconst 0, 1) := by decide +kernel
theorem d_Wi_bestAwningOf_8 : decode prog_11_method_9_code 8 = .ok (.istore 4, 2) := by decide +kernel
theorem d_Wi_bestAwningOf_10 : decode prog_11_method_9_code 10 = .ok (.iconst 0, 1) := by decide +kernel
theorem d_Wi_bestAwningOf_11 : decode prog_11_method_9_code 11 = .ok (.istore 5, 2) := by decide +kernel
theorem d_Wi_bestAwningOf_13 : decode prog_11_method_9_code 13 = .ok (.iload 5, 2) := by decide +kernel
theorem d_Wi_bestAwningOf_15 : decode prog_11_method_9_code 15 = .ok (.sipush 144, 3) := by decide +kernel
theorem d_Wi_bestAwningOf_86 : decode prog_11_method_9_code 86 = .ok (.iload_n 3, 1) := by decide +kernel
theorem d_Wi_bestAwningOf_87 : decode prog_11_method_9_code 87 = .ok (.ireturn, 1) := by decide +kernel
theorem d_Wi_bestAwningOf_21 : decode prog_11_method_9_code 21 = .ok (.iconst 0, 1) := by decide +kernel
theorem d_Wi_bestAwningOf_22 : decode prog_11_method_9_code 22 = .ok (.istore 6, 2) := by decide +kernel
theorem d_Wi_bestAwningOf_24 : decode prog_11_method_9_code 24 = .ok (.iload 6, 2) := by decide +kernel
theorem d_Wi_bestAwningOf_26 : decode prog_11_method_9_code 26 = .ok (.iconst 4, 1) := by decide +kernel
theorem d_Wi_bestAwningOf_30 : decode prog_11_method_9_code 30 = .ok (.aload_n 1, 1) := by decide +kernel
theorem d_Wi_bestAwningOf_31 : decode prog_11_method_9_code 31 = .ok (.iload 5, 2) := by decide +kernel
theorem d_Wi_bestAwningOf_33 : decode prog_11_method_9_code 33 = .ok (.invokevirtual 68, 3) := by decide +kernel
theorem d_Wi_bestAwningOf_39 : decode prog_11_method_9_code 39 = .ok (.aload_n 0, 1) := by decide +kernel
theorem d_Wi_bestAwningOf_40 : decode prog_11_method_9_code 40 = .ok (.iload 5, 2) := by decide +kernel
theorem d_Wi_bestAwningOf_42 : decode prog_11_method_9_code 42 = .ok (.iload 6, 2) := by decide +kernel
theorem d_Wi_bestAwningOf_44 : decode prog_11_method_9_code 44 = .ok (.iload_n 2, 1) := by decide +kernel
theorem d_Wi_bestAwningOf_45 : decode prog_11_method_9_code 45 = .ok (.invokevirtual 71, 3) := by decide +kernel
theorem k_Wi_gainOfAwning : MOk m_Wi_gainOfAwning 3 ∧ IOk m_Wi_gainOfAwning := ⟨⟨atG 1181 (by decide +kernel) rfl, atG 120 (by decide +kernel) rfl, ⟨by decide, by decide⟩, by decide +kernel, by decide⟩, atG 1179 (by decide +kernel) rfl, atG 1180 (by decide +kernel) rfl⟩
theorem lk_Wi_71 : Cond.methodLink "ShadeTown$Wishes" 71 ⟨"ShadeTown$Wishes", "gainOfAwning", "(III)I"⟩ ∈ tblG := atG 1178 (by decide +kernel) rfl
theorem d_Wi_bestAwningOf_48 : decode prog_11_method_9_code 48 = .ok (.istore 7, 2) := by decide +kernel
theorem d_Wi_bestAwningOf_50 : decode prog_11_method_9_code 50 = .ok (.iload_n 3, 1) := by decide +kernel
theorem d_Wi_bestAwningOf_51 : decode prog_11_method_9_code 51 = .ok (.iconst (-1), 1) := by decide +kernel
theorem d_Wi_bestAwningOf_55 : decode prog_11_method_9_code 55 = .ok (.iload 7, 2) := by decide +kernel
theorem d_Wi_bestAwningOf_57 : decode prog_11_method_9_code 57 = .ok (.iload 4, 2) := by decide +kernel
theorem d_Wi_bestAwningOf_59 : decode prog_11_method_9_code 59 = .ok (.if_icmp .le 15, 3) := by decide +kernel
theorem d_Wi_bestAwningOf_52 : decode prog_11_method_9_code 52 = .ok (.if_icmp .eq 10, 3) := by decide +kernel
theorem d_Wi_bestAwningOf_62 : decode prog_11_method_9_code 62 = .ok (.iconst 4, 1) := by decide +kernel
theorem d_Wi_bestAwningOf_63 : decode prog_11_method_9_code 63 = .ok (.iload 5, 2) := by decide +kernel
theorem d_Wi_bestAwningOf_65 : decode prog_11_method_9_code 65 = .ok (.imul, 1) := by decide +kernel
theorem d_Wi_bestAwningOf_66 : decode prog_11_method_9_code 66 = .ok (.iload 6, 2) := by decide +kernel
theorem d_Wi_bestAwningOf_68 : decode prog_11_method_9_code 68 = .ok (.iadd, 1) := by decide +kernel
theorem d_Wi_bestAwningOf_69 : decode prog_11_method_9_code 69 = .ok (.istore_n 3, 1) := by decide +kernel
theorem d_Wi_bestAwningOf_70 : decode prog_11_method_9_code 70 = .ok (.iload 7, 2) := by decide +kernel
theorem d_Wi_bestAwningOf_72 : decode prog_11_method_9_code 72 = .ok (.istore 4, 2) := by decide +kernel
theorem d_Wi_bestAwningOf_74 : decode prog_11_method_9_code 74 = .ok (.iinc 6 1, 3) := by decide +kernel
theorem d_Wi_bestAwningOf_77 : decode prog_11_method_9_code 77 = .ok (.goto (-53), 3) := by decide +kernel
theorem d_Wi_bestAwningOf_36 : decode prog_11_method_9_code 36 = .ok (.ifCond .eq 44, 3) := by decide +kernel
theorem d_Wi_bestAwningOf_27 : decode prog_11_method_9_code 27 = .ok (.if_icmp .ge 53, 3) := by decide +kernel
theorem d_Wi_bestAwningOf_80 : decode prog_11_method_9_code 80 = .ok (.iinc 5 1, 3) := by decide +kernel
theorem d_Wi_bestAwningOf_83 : decode prog_11_method_9_code 83 = .ok (.goto (-70), 3) := by decide +kernel
theorem d_Wi_bestAwningOf_18 : decode prog_11_method_9_code 18 = .ok (.if_icmp .ge 68, 3) := by decide +kernel
def B_Wi_bestAwningOf_l24 (N : Nat) (a2 : Int32) (a5 : Int32) (σ : Mem) (rec : Int32 → Int32 → Int32 → Option (Int32 × Int32)) (x3 : Int32) (x4 : Int32) (x6 : Int32) : Option (Int32 × Int32) :=
  if 4 ≤ x6 then
    (some (x3, x4))
  else
    (bnd1 (f_Da_isFree σ a5) fun r33 =>
    if r33 = 0 then
      (some (x3, x4))
    else
      (bnd1 (f_Wi_gainOfAwning N σ a5 x6 a2) fun r45 =>
      bnd1 ((
        bnd1 ((
          if x3 = (-1) then
            (some 0)
          else
            (if r45 ≤ x4 then
              (some 1)
            else
              (some 0))) : Option (Nat)) fun t52b =>
        if t52b = 0 then
          (letv ((4 * a5) + x6) fun v69 =>
          some (v69, r45))
        else
        (some (x3, x4))) : Option (Int32 × Int32)) fun s52 =>
      q2 s52 fun y52_3 y52_4 =>
      letv (x6 + 1) fun v74 =>
      rec y52_3 y52_4 v74))
def L_Wi_bestAwningOf_l24 (N : Nat) (a2 : Int32) (a5 : Int32) (σ : Mem) : Nat → Int32 → Int32 → Int32 → Option (Int32 × Int32)
  | 0, _, _, _ => none
  | k + 1, x3, x4, x6 => B_Wi_bestAwningOf_l24 N a2 a5 σ (L_Wi_bestAwningOf_l24 N a2 a5 σ k) x3 x4 x6
set_option maxHeartbeats 4000000 in
set_option maxRecDepth 20000 in
theorem cL_Wi_bestAwningOf_l24 (Z : ZX) {Y : YX} {Q : State → Prop} {N : Nat} {a2 : Int32} {a5 : Int32} {σ : Mem} {Good : Int32 × Int32 → Prop} (hE : ∀ (o3 : Int32) (o4 : Int32), Good (o3, o4) → V (mkB Z) Y m_Wi_bestAwningOf 4 Q 0 0 nC σ 80 [(0, rf Z 56), (1, rf Z 33), (2, .int a2), (3, .int o3), (4, .int o4), (5, .int a5)] []) : ∀ (k : Nat) (x3 : Int32) (x4 : Int32) (x6 : Int32) (res : Int32 × Int32), L_Wi_bestAwningOf_l24 N a2 a5 σ k x3 x4 x6 = some res → Good res → V (mkB Z) Y m_Wi_bestAwningOf 4 Q 0 0 nC σ 24 [(0, rf Z 56), (1, rf Z 33), (2, .int a2), (3, .int x3), (4, .int x4), (5, .int a5), (6, .int x6)] [] := by
  intro k
  induction k with
  | zero => intro x3 x4 x6 res h; cases h
  | succ k ih =>
    intro x3 x4 x6 res h hg
    replace h : B_Wi_bestAwningOf_l24 N a2 a5 σ (L_Wi_bestAwningOf_l24 N a2 a5 σ k) x3 x4 x6 = some res := h
    unfold B_Wi_bestAwningOf_l24 at h
    refine V.iload d_Wi_bestAwningOf_24 6 rfl ?_
    refine V.iconst (v := 4) d_Wi_bestAwningOf_26 (by decide) ?_
    refine V.icmp_ge (tgt := 80) d_Wi_bestAwningOf_27 (by decide) (fun hc27 => ?_) (fun hc27 => ?_)
    · replace h := ite_t hc27 h
      cases h
      exact V.pick [0, 1, 2, 3, 4, 5] rfl (hE _ _ hg)
    · replace h := ite_f hc27 h
      refine V.aload_n d_Wi_bestAwningOf_30 rfl 1 rfl ?_
      refine V.iload d_Wi_bestAwningOf_31 5 rfl ?_
      obtain ⟨r33, h1, h⟩ := bnd1_e h
      refine V.vI (as := [.int a5]) (st := []) (c_Da_isFree Z h1) k_Da_isFree lk_Wi_68 (by decide) rfl (by decide) ly_33 ok_Da.1 rfl (Nat.le_of_ble_eq_true rfl) d_Wi_bestAwningOf_33 ?_
      refine V.if_eq (tgt := 80) d_Wi_bestAwningOf_36 (by decide) (fun hc36 => ?_) (fun hc36 => ?_)
      · replace h := ite_t hc36 h
        cases h
        exact V.pick [0, 1, 2, 3, 4, 5] rfl (hE _ _ hg)
      · replace h := ite_f hc36 h
        refine V.aload_n d_Wi_bestAwningOf_39 rfl 0 rfl ?_
        refine V.iload d_Wi_bestAwningOf_40 5 rfl ?_
        refine V.iload d_Wi_bestAwningOf_42 6 rfl ?_
        refine V.iload_n d_Wi_bestAwningOf_44 rfl 2 rfl ?_
        obtain ⟨r45, h1, h⟩ := bnd1_e h
        refine V.vI (as := [.int a5, .int x6, .int a2]) (st := []) (c_Wi_gainOfAwning Z h1) k_Wi_gainOfAwning lk_Wi_71 (by decide) rfl (by decide) ly_56 ok_Wi.1 rfl (Nat.le_of_ble_eq_true rfl) d_Wi_bestAwningOf_45 ?_
        refine V.istore (lv' := [(7, .int r45), (0, rf Z 56), (1, rf Z 33), (2, .int a2), (3, .int x3), (4, .int x4), (5, .int a5), (6, .int x6)]) d_Wi_bestAwningOf_48 (by decide) rfl ?_
        refine V.iload_n d_Wi_bestAwningOf_50 rfl 4 rfl ?_
        refine V.iconst (v := (-1)) d_Wi_bestAwningOf_51 (by decide) ?_
        obtain ⟨s52, h1, h⟩ := bnd1_e h
        have J52_74 : ∀ (y52_3 : Int32) (y52_4 : Int32), s52 = (y52_3, y52_4) → V (mkB Z) Y m_Wi_bestAwningOf 4 Q 0 0 nC σ 74 [(0, rf Z 56), (1, rf Z 33), (2, .int a2), (3, .int y52_3), (4, .int y52_4), (5, .int a5), (6, .int x6)] [] := by
          intro y52_3 y52_4 he
          rw [he] at h
          replace h := q2_e h
          obtain ⟨v74, e_v74, h⟩ := letv_e h
          refine V.iinc (v := v74) (lv' := [(6, .int v74), (0, rf Z 56), (1, rf Z 33), (2, .int a2), (3, .int y52_3), (4, .int y52_4), (5, .int a5)]) d_Wi_bestAwningOf_74 6 rfl (by rw [e_v74]; rfl) (by decide) rfl ?_
          refine V.goto (tgt := 24) d_Wi_bestAwningOf_77 (by decide) ?_
          exact V.pick [1, 2, 3, 4, 5, 6, 0] rfl (ih _ _ _ _ h hg)
        replace h := h1
        obtain ⟨s52b, h1, h⟩ := bnd1_e h
        have J52b_62 : s52b = 0 → V (mkB Z) Y m_Wi_bestAwningOf 4 Q 0 0 nC σ 62 [(0, rf Z 56), (1, rf Z 33), (2, .int a2), (5, .int a5), (6, .int x6), (7, .int r45)] [] := by
          intro he
          rw [he] at h
          replace h := ite_t rfl h
          refine V.iconst (v := 4) d_Wi_bestAwningOf_62 (by decide) ?_
          refine V.iload d_Wi_bestAwningOf_63 3 rfl ?_
          refine V.imul d_Wi_bestAwningOf_65 ?_
          refine V.iload d_Wi_bestAwningOf_66 4 rfl ?_
          refine V.iadd d_Wi_bestAwningOf_68 ?_
          obtain ⟨v69, e_v69, h⟩ := letv_e h
          refine V.topI e_v69 ?_
          refine V.istore_n (lv' := [(3, .int v69), (0, rf Z 56), (1, rf Z 33), (2, .int a2), (5, .int a5), (6, .int x6), (7, .int r45)]) d_Wi_bestAwningOf_69 rfl (by decide) rfl ?_
          refine V.iload d_Wi_bestAwningOf_70 6 rfl ?_
          refine V.istore (lv' := [(4, .int r45), (3, .int v69), (0, rf Z 56), (1, rf Z 33), (2, .int a2), (5, .int a5), (6, .int x6), (7, .int r45)]) d_Wi_bestAwningOf_72 (by decide) rfl ?_
          exact V.pick [2, 3, 4, 1, 0, 5, 6] rfl (J52_74 _ _ (Option.some.inj h).symm)
        have J52b_74 : s52b = 1 → V (mkB Z) Y m_Wi_bestAwningOf 4 Q 0 0 nC σ 74 [(0, rf Z 56), (1, rf Z 33), (2, .int a2), (3, .int x3), (4, .int x4), (5, .int a5), (6, .int x6)] [] := by
          intro he
          rw [he] at h
          replace h := ite_f (by decide) h
          exact V.pick [0, 1, 2, 3, 4, 5, 6] rfl (J52_74 _ _ (Option.some.inj h).symm)
        replace h := h1
        refine V.icmp_eq (tgt := 62) d_Wi_bestAwningOf_52 (by decide) (fun hc52 => ?_) (fun hc52 => ?_)
        · replace h := ite_t hc52 h
          exact V.pick [1, 2, 3, 6, 7, 0] rfl (J52b_62 (Option.some.inj h).symm)
        · replace h := ite_f hc52 h
          refine V.iload d_Wi_bestAwningOf_55 0 rfl ?_
          refine V.iload d_Wi_bestAwningOf_57 5 rfl ?_
          refine V.icmp_le (tgt := 74) d_Wi_bestAwningOf_59 (by decide) (fun hc59 => ?_) (fun hc59 => ?_)
          · replace h := ite_t hc59 h
            exact V.pick [1, 2, 3, 4, 5, 6, 7] rfl (J52b_74 (Option.some.inj h).symm)
          · replace h := ite_f hc59 h
            exact V.pick [1, 2, 3, 6, 7, 0] rfl (J52b_62 (Option.some.inj h).symm)
def B_Wi_bestAwningOf_l13 (N : Nat) (a2 : Int32) (rec : Int32 → Int32 → Int32 → Mem → Option (Int32 × Mem)) (x3 : Int32) (x4 : Int32) (x5 : Int32) (σ : Mem) : Option (Int32 × Mem) :=
  if 144 ≤ x5 then
    (some (x3, σ))
  else
    (bnd1 (L_Wi_bestAwningOf_l24 N a2 x5 σ N x3 x4 0) fun x24_ =>
    q2 x24_ fun z24_3 z24_4 =>
    letv (x5 + 1) fun v80 =>
    rec z24_3 z24_4 v80 σ)
def L_Wi_bestAwningOf_l13 (N : Nat) (a2 : Int32) : Nat → Int32 → Int32 → Int32 → Mem → Option (Int32 × Mem)
  | 0, _, _, _, _ => none
  | k + 1, x3, x4, x5, σ => B_Wi_bestAwningOf_l13 N a2 (L_Wi_bestAwningOf_l13 N a2 k) x3 x4 x5 σ
set_option maxHeartbeats 4000000 in
set_option maxRecDepth 20000 in
theorem cL_Wi_bestAwningOf_l13 (Z : ZX) {Y : YX} {post : Option Value → Mem → Prop} {N : Nat} {a2 : Int32} {Good : Int32 × Mem → Prop} (hR : ∀ (v : Int32) (σr : Mem), Good (v, σr) → post (some (.int v)) σr) : ∀ (k : Nat) (x3 : Int32) (x4 : Int32) (x5 : Int32) (σ : Mem) (res : Int32 × Mem), L_Wi_bestAwningOf_l13 N a2 k x3 x4 x5 σ = some res → Good res → V (mkB Z) Y m_Wi_bestAwningOf 4 (QP (mkB Z) Y nC 0 0 post) 0 0 nC σ 13 [(0, rf Z 56), (1, rf Z 33), (2, .int a2), (3, .int x3), (4, .int x4), (5, .int x5)] [] := by
  intro k
  induction k with
  | zero => intro x3 x4 x5 σ res h; cases h
  | succ k ih =>
    intro x3 x4 x5 σ res h hg
    replace h : B_Wi_bestAwningOf_l13 N a2 (L_Wi_bestAwningOf_l13 N a2 k) x3 x4 x5 σ = some res := h
    unfold B_Wi_bestAwningOf_l13 at h
    refine V.iload d_Wi_bestAwningOf_13 5 rfl ?_
    refine V.sipush (v := 144) d_Wi_bestAwningOf_15 (by decide) ?_
    refine V.icmp_ge (tgt := 86) d_Wi_bestAwningOf_18 (by decide) (fun hc18 => ?_) (fun hc18 => ?_)
    · replace h := ite_t hc18 h
      refine V.iload_n d_Wi_bestAwningOf_86 rfl 3 rfl ?_
      cases h
      exact V.iret rfl d_Wi_bestAwningOf_87 (hR _ _ hg)
    · replace h := ite_f hc18 h
      refine V.iconst (v := 0) d_Wi_bestAwningOf_21 (by decide) ?_
      refine V.istore (lv' := [(6, .int 0), (0, rf Z 56), (1, rf Z 33), (2, .int a2), (3, .int x3), (4, .int x4), (5, .int x5)]) d_Wi_bestAwningOf_22 (by decide) rfl ?_
      obtain ⟨x24_, h1, h⟩ := bnd1_e h
      refine V.pick [1, 2, 3, 4, 5, 6, 0] rfl (cL_Wi_bestAwningOf_l24 Z (Good := fun z => x24_ = z) (fun z24_3 z24_4 he => ?_) N _ _ _ _ h1 rfl)
      · rw [he] at h
        replace h := q2_e h
        obtain ⟨v80, e_v80, h⟩ := letv_e h
        refine V.iinc (v := v80) (lv' := [(5, .int v80), (0, rf Z 56), (1, rf Z 33), (2, .int a2), (3, .int z24_3), (4, .int z24_4)]) d_Wi_bestAwningOf_80 5 rfl (by rw [e_v80]; rfl) (by decide) rfl ?_
        refine V.goto (tgt := 13) d_Wi_bestAwningOf_83 (by decide) ?_
        exact V.pick [1, 2, 3, 4, 5, 0] rfl (ih _ _ _ _ _ h hg)
def f_Wi_bestAwningOf (N : Nat) (σ : Mem) (a2 : Int32) : Option (Int32 × Mem) :=
  bnd1 (f_Wi_findGains N σ) fun σ2 =>
  L_Wi_bestAwningOf_l13 N a2 N (-1) 0 0 σ2
set_option maxHeartbeats 4000000 in
set_option maxRecDepth 20000 in
theorem c_Wi_bestAwningOf (Z : ZX) {N : Nat} {σ : Mem} {a2 : Int32} {r : Int32} {σ' : Mem} (h : f_Wi_bestAwningOf N σ a2 = some (r, σ')) : CI Z 4 m_Wi_bestAwningOf [rf Z 56, rf Z 33, .int a2] σ r σ' := by
  refine Ct.of (by decide +kernel) (Nat.le_of_ble_eq_true rfl) (fun Y => ?_)
  show V (mkB Z) Y m_Wi_bestAwningOf 4 (QP (mkB Z) Y nC 0 0 (fun v t => v = some (.int r) ∧ t = σ')) 0 0 nC σ 0 [(0, rf Z 56), (1, rf Z 33), (2, .int a2)] []
  unfold f_Wi_bestAwningOf at h
  refine V.aload_n d_Wi_bestAwningOf_0 rfl 0 rfl ?_
  refine V.aload_n d_Wi_bestAwningOf_1 rfl 1 rfl ?_
  obtain ⟨σ2, h1, h⟩ := bnd1_e h
  refine V.vN (as := [rf Z 33]) (st := []) (c_Wi_findGains Z h1) k_Wi_findGains lk_Wi_64 (by decide) rfl (by decide) ly_56 ok_Wi.1 rfl (Nat.le_of_ble_eq_true rfl) d_Wi_bestAwningOf_2 ?_
  refine V.iconst (v := (-1)) d_Wi_bestAwningOf_5 (by decide) ?_
  refine V.istore_n (lv' := [(3, .int (-1)), (0, rf Z 56), (1, rf Z 33), (2, .int a2)]) d_Wi_bestAwningOf_6 rfl (by decide) rfl ?_
  refine V.iconst (v := 0) d_Wi_bestAwningOf_7 (by decide) ?_
  refine V.istore (lv' := [(4, .int 0), (3, .int (-1)), (0, rf Z 56), (1, rf Z 33), (2, .int a2)]) d_Wi_bestAwningOf_8 (by decide) rfl ?_
  refine V.iconst (v := 0) d_Wi_bestAwningOf_10 (by decide) ?_
  refine V.istore (lv' := [(5, .int 0), (4, .int 0), (3, .int (-1)), (0, rf Z 56), (1, rf Z 33), (2, .int a2)]) d_Wi_bestAwningOf_11 (by decide) rfl ?_
  refine V.pick [3, 4, 5, 2, 1, 0] rfl (cL_Wi_bestAwningOf_l13 Z (Good := fun z => z = _) (fun r13v r13m he => ?_) N _ _ _ _ _ h rfl)
  · cases he
    exact ⟨rfl, rfl⟩
abbrev m_Sh_bestAwning : MI := (⟨"ShadeTown", "bestAwning", "(II)I"⟩, prog_1_method_26_code, 6, (Option.some Jvm.ClassFile.FieldType.int))
theorem d_Sh_bestAwning_0 : decode prog_1_method_26_code 0 = .ok (.iload_n 1, 1) := by decide +kernel
theorem d_Sh_bestAwning_1 : decode prog_1_method_26_code 1 = .ok (.invokestatic 140, 3) := by decide +kernel
theorem d_Sh_bestAwning_16 : decode prog_1_method_26_code 16 = .ok (.iconst (-1), 1) := by decide +kernel
theorem d_Sh_bestAwning_17 : decode prog_1_method_26_code 17 = .ok (.ireturn, 1) := by decide +kernel
theorem d_Sh_bestAwning_7 : decode prog_1_method_26_code 7 = .ok (.iload_n 2, 1) := by decide +kernel
theorem d_Sh_bestAwning_11 : decode prog_1_method_26_code 11 = .ok (.iload_n 2, 1) := by decide +kernel
theorem d_Sh_bestAwning_12 : decode prog_1_method_26_code 12 = .ok (.iconst 2, 1) := by decide +kernel
theorem d_Sh_bestAwning_18 : decode prog_1_method_26_code 18 = .ok (.aload_n 0, 1) := by decide +kernel
theorem d_Sh_bestAwning_19 : decode prog_1_method_26_code 19 = .ok (.invokevirtual 181, 3) := by decide +kernel
theorem d_Sh_bestAwning_22 : decode prog_1_method_26_code 22 = .ok (.astore_n 3, 1) := by decide +kernel
theorem d_Sh_bestAwning_23 : decode prog_1_method_26_code 23 = .ok (.aload_n 0, 1) := by decide +kernel
theorem d_Sh_bestAwning_24 : decode prog_1_method_26_code 24 = .ok (.getfield 82, 3) := by decide +kernel
theorem d_Sh_bestAwning_27 : decode prog_1_method_26_code 27 = .ok (.aload_n 3, 1) := by decide +kernel
theorem d_Sh_bestAwning_28 : decode prog_1_method_26_code 28 = .ok (.iload_n 1, 1) := by decide +kernel
theorem d_Sh_bestAwning_29 : decode prog_1_method_26_code 29 = .ok (.invokevirtual 312, 3) := by decide +kernel
theorem k_Wi_bestAwningOf : MOk m_Wi_bestAwningOf 2 ∧ IOk m_Wi_bestAwningOf := ⟨⟨atG 1172 (by decide +kernel) rfl, atG 120 (by decide +kernel) rfl, ⟨by decide, by decide⟩, by decide +kernel, by decide⟩, atG 1170 (by decide +kernel) rfl, atG 1171 (by decide +kernel) rfl⟩
theorem lk_Sh_312 : Cond.methodLink "ShadeTown" 312 ⟨"ShadeTown$Wishes", "bestAwningOf", "(LShadeTown$Day;I)I"⟩ ∈ tblG := atG 1169 (by decide +kernel) rfl
theorem d_Sh_bestAwning_32 : decode prog_1_method_26_code 32 = .ok (.istore 4, 2) := by decide +kernel
theorem d_Sh_bestAwning_34 : decode prog_1_method_26_code 34 = .ok (.iload 4, 2) := by decide +kernel
theorem d_Sh_bestAwning_42 : decode prog_1_method_26_code 42 = .ok (.iload_n 2, 1) := by decide +kernel
theorem d_Sh_bestAwning_43 : decode prog_1_method_26_code 43 = .ok (.iconst 2, 1) := by decide +kernel
theorem d_Sh_bestAwning_88 : decode prog_1_method_26_code 88 = .ok (.iload_n 2, 1) := by decide +kernel
theorem d_Sh_bestAwning_99 : decode prog_1_method_26_code 99 = .ok (.iload 4, 2) := by decide +kernel
theorem d_Sh_bestAwning_101 : decode prog_1_method_26_code 101 = .ok (.iconst 4, 1) := by decide +kernel
theorem d_Sh_bestAwning_102 : decode prog_1_method_26_code 102 = .ok (.irem, 1) := by decide +kernel
theorem d_Sh_bestAwning_103 : decode prog_1_method_26_code 103 = .ok (.ireturn, 1) := by decide +kernel
theorem d_Sh_bestAwning_92 : decode prog_1_method_26_code 92 = .ok (.iload 4, 2) := by decide +kernel
theorem d_Sh_bestAwning_94 : decode prog_1_method_26_code 94 = .ok (.iconst 4, 1) := by decide +kernel
theorem d_Sh_bestAwning_95 : decode prog_1_method_26_code 95 = .ok (.idiv, 1) := by decide +kernel
theorem d_Sh_bestAwning_96 : decode prog_1_method_26_code 96 = .ok (.goto 7, 3) := by decide +kernel
theorem d_Sh_bestAwning_89 : decode prog_1_method_26_code 89 = .ok (.ifCond .ne 10, 3) := by decide +kernel
theorem d_Sh_bestAwning_47 : decode prog_1_method_26_code 47 = .ok (.aload_n 0, 1) := by decide +kernel
theorem d_Sh_bestAwning_48 : decode prog_1_method_26_code 48 = .ok (.getfield 82, 3) := by decide +kernel
theorem d_Sh_bestAwning_51 : decode prog_1_method_26_code 51 = .ok (.aload_n 3, 1) := by decide +kernel
theorem d_Sh_bestAwning_52 : decode prog_1_method_26_code 52 = .ok (.iconst 1, 1) := by decide +kernel
theorem d_Sh_bestAwning_53 : decode prog_1_method_26_code 53 = .ok (.invokevirtual 294, 3) := by decide +kernel
theorem d_Sh_bestAwning_56 : decode prog_1_method_26_code 56 = .ok (.aload_n 0, 1) := by decide +kernel
theorem d_Sh_bestAwning_57 : decode prog_1_method_26_code 57 = .ok (.getfield 82, 3) := by decide +kernel
theorem d_Sh_bestAwning_60 : decode prog_1_method_26_code 60 = .ok (.aload_n 3, 1) := by decide +kernel
theorem d_Sh_bestAwning_61 : decode prog_1_method_26_code 61 = .ok (.iconst 0, 1) := by decide +kernel
theorem d_Sh_bestAwning_62 : decode prog_1_method_26_code 62 = .ok (.invokevirtual 294, 3) := by decide +kernel
theorem d_Sh_bestAwning_65 : decode prog_1_method_26_code 65 = .ok (.iadd, 1) := by decide +kernel
theorem d_Sh_bestAwning_66 : decode prog_1_method_26_code 66 = .ok (.istore 5, 2) := by decide +kernel
theorem d_Sh_bestAwning_68 : decode prog_1_method_26_code 68 = .ok (.iload 5, 2) := by decide +kernel
theorem d_Sh_bestAwning_70 : decode prog_1_method_26_code 70 = .ok (.aload_n 0, 1) := by decide +kernel
theorem d_Sh_bestAwning_71 : decode prog_1_method_26_code 71 = .ok (.getfield 82, 3) := by decide +kernel
theorem d_Sh_bestAwning_74 : decode prog_1_method_26_code 74 = .ok (.iload 4, 2) := by decide +kernel
theorem d_Sh_bestAwning_76 : decode prog_1_method_26_code 76 = .ok (.iconst 4, 1) := by decide +kernel
theorem d_Sh_bestAwning_77 : decode prog_1_method_26_code 77 = .ok (.idiv, 1) := by decide +kernel
theorem d_Sh_bestAwning_78 : decode prog_1_method_26_code 78 = .ok (.iload 4, 2) := by decide +kernel
theorem d_Sh_bestAwning_80 : decode prog_1_method_26_code 80 = .ok (.iconst 4, 1) := by decide +kernel
theorem d_Sh_bestAwning_81 : decode prog_1_method_26_code 81 = .ok (.irem, 1) := by decide +kernel
theorem d_Sh_bestAwning_82 : decode prog_1_method_26_code 82 = .ok (.iload_n 1, 1) := by decide +kernel
theorem d_Sh_bestAwning_83 : decode prog_1_method_26_code 83 = .ok (.invokevirtual 315, 3) := by decide +kernel
theorem lk_Sh_315 : Cond.methodLink "ShadeTown" 315 ⟨"ShadeTown$Wishes", "gainOfAwning", "(III)I"⟩ ∈ tblG := atG 1183 (by decide +kernel) rfl
theorem d_Sh_bestAwning_86 : decode prog_1_method_26_code 86 = .ok (.iadd, 1) := by decide +kernel
theorem d_Sh_bestAwning_87 : decode prog_1_method_26_code 87 = .ok (.ireturn, 1) := by decide +kernel
theorem d_Sh_bestAwning_44 : decode prog_1_method_26_code 44 = .ok (.if_icmp .ne 44, 3) := by decide +kernel
theorem d_Sh_bestAwning_39 : decode prog_1_method_26_code 39 = .ok (.bipush (-2), 2) := by decide +kernel
theorem d_Sh_bestAwning_41 : decode prog_1_method_26_code 41 = .ok (.ireturn, 1) := by decide +kernel
theorem d_Sh_bestAwning_36 : decode prog_1_method_26_code 36 = .ok (.ifCond .ge 6, 3) := by decide +kernel
theorem d_Sh_bestAwning_13 : decode prog_1_method_26_code 13 = .ok (.if_icmp .le 5, 3) := by decide +kernel
theorem d_Sh_bestAwning_8 : decode prog_1_method_26_code 8 = .ok (.ifCond .lt 8, 3) := by decide +kernel
theorem d_Sh_bestAwning_4 : decode prog_1_method_26_code 4 = .ok (.ifCond .eq 12, 3) := by decide +kernel
def f_Sh_bestAwning (N : Nat) (σ : Mem) (a1 : Int32) (a2 : Int32) : Option (Int32 × Mem) :=
  bnd1 (f_Sh_isLength a1) fun r1 =>
  if r1 = 0 then
    (some ((-1), σ))
  else
    (if a2 < 0 then
      (some ((-1), σ))
    else
      (if a2 ≤ 2 then
        (bnd1 (f_Sh_today N σ) fun σ19 =>
        bnd2 (f_Wi_bestAwningOf N σ19 a1) fun r29 σ29 =>
        if 0 ≤ r29 then
          (if a2 = 2 then
            (bnd1 (f_Wi_happiness N σ29 1) fun r53 =>
            bnd1 (f_Wi_happiness N σ29 0) fun r62 =>
            letv (r53 + r62) fun v66 =>
            bnd1 (f_Wi_gainOfAwning N σ29 (r29 / 4) (r29 - r29 / 4 * 4) a1) fun r83 =>
            some (v66 + r83, σ29))
          else
            (if a2 = 0 then
              (some (r29 / 4, σ29))
            else
              (some (r29 - r29 / 4 * 4, σ29))))
        else
          (some ((-2), σ29)))
      else
        (some ((-1), σ))))
set_option maxHeartbeats 4000000 in
set_option maxRecDepth 20000 in
theorem c_Sh_bestAwning (Z : ZX) {N : Nat} {σ : Mem} {a1 : Int32} {a2 : Int32} {r : Int32} {σ' : Mem} (h : f_Sh_bestAwning N σ a1 a2 = some (r, σ')) : CI Z 6 m_Sh_bestAwning [rf Z 0, .int a1, .int a2] σ r σ' := by
  refine Ct.of (by decide +kernel) (Nat.le_of_ble_eq_true rfl) (fun Y => ?_)
  show V (mkB Z) Y m_Sh_bestAwning 6 (QP (mkB Z) Y nC 0 0 (fun v t => v = some (.int r) ∧ t = σ')) 0 0 nC σ 0 [(0, rf Z 0), (1, .int a1), (2, .int a2)] []
  unfold f_Sh_bestAwning at h
  refine V.iload_n d_Sh_bestAwning_0 rfl 1 rfl ?_
  obtain ⟨r1, h1, h⟩ := bnd1_e h
  refine V.sI (as := [.int a1]) (st := []) (c_Sh_isLength Z h1) k_Sh_isLength lk_Sh_140 (by decide) rfl rfl (Nat.le_of_ble_eq_true rfl) d_Sh_bestAwning_1 ?_
  refine V.if_eq (tgt := 16) d_Sh_bestAwning_4 (by decide) (fun hc4 => ?_) (fun hc4 => ?_)
  · replace h := ite_t hc4 h
    refine V.iconst (v := (-1)) d_Sh_bestAwning_16 (by decide) ?_
    cases h
    exact V.iret rfl d_Sh_bestAwning_17 ⟨rfl, rfl⟩
  · replace h := ite_f hc4 h
    refine V.iload_n d_Sh_bestAwning_7 rfl 2 rfl ?_
    refine V.if_lt (tgt := 16) d_Sh_bestAwning_8 (by decide) (fun hc8 => ?_) (fun hc8 => ?_)
    · replace h := ite_t hc8 h
      refine V.iconst (v := (-1)) d_Sh_bestAwning_16 (by decide) ?_
      cases h
      exact V.iret rfl d_Sh_bestAwning_17 ⟨rfl, rfl⟩
    · replace h := ite_f hc8 h
      refine V.iload_n d_Sh_bestAwning_11 rfl 2 rfl ?_
      refine V.iconst (v := 2) d_Sh_bestAwning_12 (by decide) ?_
      refine V.icmp_le (tgt := 18) d_Sh_bestAwning_13 (by decide) (fun hc13 => ?_) (fun hc13 => ?_)
      · replace h := ite_t hc13 h
        refine V.aload_n d_Sh_bestAwning_18 rfl 0 rfl ?_
        obtain ⟨σ19, h1, h⟩ := bnd1_e h
        refine V.vA (as := []) (st := []) (c_Sh_today Z h1) k_Sh_today lk_Sh_181 (by decide) rfl (by decide) ly_0 ok_Sh.1 rfl (Nat.le_of_ble_eq_true rfl) d_Sh_bestAwning_19 ?_
        refine V.astore_n (lv' := [(3, rf Z 33), (0, rf Z 0), (1, .int a1), (2, .int a2)]) d_Sh_bestAwning_22 rfl (by decide) rfl ?_
        refine V.aload_n d_Sh_bestAwning_23 rfl 1 rfl ?_
        refine V.getR (r := 56) ok_Sh fl_Sh_82 (by decide) (by decide) ly_0 rfl d_Sh_bestAwning_24 ?_
        refine V.aload_n d_Sh_bestAwning_27 rfl 0 rfl ?_
        refine V.iload_n d_Sh_bestAwning_28 rfl 2 rfl ?_
        obtain ⟨r29, σ29, h1, h⟩ := bnd2_e h
        refine V.vI (as := [rf Z 33, .int a1]) (st := []) (c_Wi_bestAwningOf Z h1) k_Wi_bestAwningOf lk_Sh_312 (by decide) rfl (by decide) ly_56 ok_Wi.1 rfl (Nat.le_of_ble_eq_true rfl) d_Sh_bestAwning_29 ?_
        refine V.istore (lv' := [(4, .int r29), (3, rf Z 33), (0, rf Z 0), (1, .int a1), (2, .int a2)]) d_Sh_bestAwning_32 (by decide) rfl ?_
        refine V.iload d_Sh_bestAwning_34 0 rfl ?_
        refine V.if_ge (tgt := 42) d_Sh_bestAwning_36 (by decide) (fun hc36 => ?_) (fun hc36 => ?_)
        · replace h := ite_t hc36 h
          refine V.iload_n d_Sh_bestAwning_42 rfl 4 rfl ?_
          refine V.iconst (v := 2) d_Sh_bestAwning_43 (by decide) ?_
          refine V.icmp_ne (tgt := 88) d_Sh_bestAwning_44 (by decide) (fun hc44 => ?_) (fun hc44 => ?_)
          · replace h := ite_f hc44 h
            refine V.iload_n d_Sh_bestAwning_88 rfl 4 rfl ?_
            refine V.if_ne (tgt := 99) d_Sh_bestAwning_89 (by decide) (fun hc89 => ?_) (fun hc89 => ?_)
            · replace h := ite_f hc89 h
              refine V.iload d_Sh_bestAwning_99 0 rfl ?_
              refine V.iconst (v := 4) d_Sh_bestAwning_101 (by decide) ?_
              refine V.irem d_Sh_bestAwning_102 (by decide) ?_
              cases h
              exact V.iret rfl d_Sh_bestAwning_103 ⟨rfl, rfl⟩
            · replace h := ite_t hc89 h
              refine V.iload d_Sh_bestAwning_92 0 rfl ?_
              refine V.iconst (v := 4) d_Sh_bestAwning_94 (by decide) ?_
              refine V.idiv d_Sh_bestAwning_95 (by decide) ?_
              refine V.goto (tgt := 103) d_Sh_bestAwning_96 (by decide) ?_
              cases h
              exact V.iret rfl d_Sh_bestAwning_103 ⟨rfl, rfl⟩
          · replace h := ite_t hc44 h
            refine V.aload_n d_Sh_bestAwning_47 rfl 2 rfl ?_
            refine V.getR (r := 56) ok_Sh fl_Sh_82 (by decide) (by decide) ly_0 rfl d_Sh_bestAwning_48 ?_
            refine V.aload_n d_Sh_bestAwning_51 rfl 1 rfl ?_
            refine V.iconst (v := 1) d_Sh_bestAwning_52 (by decide) ?_
            obtain ⟨r53, h1, h⟩ := bnd1_e h
            refine V.vI (as := [rf Z 33, .int 1]) (st := []) (c_Wi_happiness Z h1) k_Wi_happiness lk_Sh_294 (by decide) rfl (by decide) ly_56 ok_Wi.1 rfl (Nat.le_of_ble_eq_true rfl) d_Sh_bestAwning_53 ?_
            refine V.aload_n d_Sh_bestAwning_56 rfl 2 rfl ?_
            refine V.getR (r := 56) ok_Sh fl_Sh_82 (by decide) (by decide) ly_0 rfl d_Sh_bestAwning_57 ?_
            refine V.aload_n d_Sh_bestAwning_60 rfl 1 rfl ?_
            refine V.iconst (v := 0) d_Sh_bestAwning_61 (by decide) ?_
            obtain ⟨r62, h1, h⟩ := bnd1_e h
            refine V.vI (as := [rf Z 33, .int 0]) (st := [.int r53]) (c_Wi_happiness Z h1) k_Wi_happiness lk_Sh_294 (by decide) rfl (by decide) ly_56 ok_Wi.1 rfl (Nat.le_of_ble_eq_true rfl) d_Sh_bestAwning_62 ?_
            refine V.iadd d_Sh_bestAwning_65 ?_
            obtain ⟨v66, e_v66, h⟩ := letv_e h
            refine V.topI e_v66 ?_
            refine V.istore (lv' := [(5, .int v66), (4, .int r29), (3, rf Z 33), (0, rf Z 0), (1, .int a1), (2, .int a2)]) d_Sh_bestAwning_66 (by decide) rfl ?_
            refine V.iload d_Sh_bestAwning_68 0 rfl ?_
            refine V.aload_n d_Sh_bestAwning_70 rfl 3 rfl ?_
            refine V.getR (r := 56) ok_Sh fl_Sh_82 (by decide) (by decide) ly_0 rfl d_Sh_bestAwning_71 ?_
            refine V.iload d_Sh_bestAwning_74 1 rfl ?_
            refine V.iconst (v := 4) d_Sh_bestAwning_76 (by decide) ?_
            refine V.idiv d_Sh_bestAwning_77 (by decide) ?_
            refine V.iload d_Sh_bestAwning_78 1 rfl ?_
            refine V.iconst (v := 4) d_Sh_bestAwning_80 (by decide) ?_
            refine V.irem d_Sh_bestAwning_81 (by decide) ?_
            refine V.iload_n d_Sh_bestAwning_82 rfl 4 rfl ?_
            obtain ⟨r83, h1, h⟩ := bnd1_e h
            refine V.vI (as := [.int (r29 / 4), .int (r29 - r29 / 4 * 4), .int a1]) (st := [.int v66]) (c_Wi_gainOfAwning Z h1) k_Wi_gainOfAwning lk_Sh_315 (by decide) rfl (by decide) ly_56 ok_Wi.1 rfl (Nat.le_of_ble_eq_true rfl) d_Sh_bestAwning_83 ?_
            refine V.iadd d_Sh_bestAwning_86 ?_
            cases h
            exact V.iret rfl d_Sh_bestAwning_87 ⟨rfl, rfl⟩
        · replace h := ite_f hc36 h
          refine V.bipush (v := (-2)) d_Sh_bestAwning_39 (by decide) ?_
          cases h
          exact V.iret rfl d_Sh_bestAwning_41 ⟨rfl, rfl⟩
      · replace h := ite_f hc13 h
        refine V.iconst (v := (-1)) d_Sh_bestAwning_16 (by decide) ?_
        cases h
        exact V.iret rfl d_Sh_bestAwning_17 ⟨rfl, rfl⟩
abbrev m_Da_changedByTrial : MI := (⟨"ShadeTown$Day", "changedByTrial", "(IIZ)I"⟩, prog_3_method_22_code, 8, (Option.some Jvm.ClassFile.FieldType.int))
theorem d_Da_changedByTrial_0 : decode prog_3_method_22_code 0 = .ok (.aload_n 0, 1) := by decide +kernel
theorem d_Da_changedByTrial_1 : decode prog_3_method_22_code 1 = .ok (.iload_n 2, 1) := by decide +kernel
theorem d_Da_changedByTrial_2 : decode prog_3_method_22_code 2 = .ok (.invokevirtual 110, 3) := by decide +kernel
theorem lk_Da_110 : Cond.methodLink "ShadeTown$Day" 110 ⟨"ShadeTown$Day", "layTrial", "(I)V"⟩ ∈ tblG := atG 1192 (by decide +kernel) rfl
theorem d_Da_changedByTrial_5 : decode prog_3_method_22_code 5 = .ok (.iconst 0, 1) := by decide +kernel
theorem d_Da_changedByTrial_6 : decode prog_3_method_22_code 6 = .ok (.istore 4, 2) := by decide +kernel
theorem d_Da_changedByTrial_8 : decode prog_3_method_22_code 8 = .ok (.iconst 0, 1) := by decide +kernel
theorem d_Da_changedByTrial_9 : decode prog_3_method_22_code 9 = .ok (.istore 5, 2) := by decide +kernel
theorem d_Da_changedByTrial_11 : decode prog_3_method_22_code 11 = .ok (.iload 5, 2) := by decide +kernel
theorem d_Da_changedByTrial_13 : decode prog_3_method_22_code 13 = .ok (.sipush 144, 3) := by decide +kernel
theorem d_Da_changedByTrial_68 : decode prog_3_method_22_code 68 = .ok (.iload 4, 2) := by decide +kernel
theorem d_Da_changedByTrial_70 : decode prog_3_method_22_code 70 = .ok (.ireturn, 1) := by decide +kernel
theorem d_Da_changedByTrial_19 : decode prog_3_method_22_code 19 = .ok (.aload_n 0, 1) := by decide +kernel
theorem d_Da_changedByTrial_20 : decode prog_3_method_22_code 20 = .ok (.iload_n 2, 1) := by decide +kernel
theorem d_Da_changedByTrial_21 : decode prog_3_method_22_code 21 = .ok (.iload 5, 2) := by decide +kernel
theorem d_Da_changedByTrial_23 : decode prog_3_method_22_code 23 = .ok (.invokevirtual 62, 3) := by decide +kernel
theorem d_Da_changedByTrial_33 : decode prog_3_method_22_code 33 = .ok (.iconst 0, 1) := by decide +kernel
theorem d_Da_changedByTrial_29 : decode prog_3_method_22_code 29 = .ok (.iconst 1, 1) := by decide +kernel
theorem d_Da_changedByTrial_30 : decode prog_3_method_22_code 30 = .ok (.goto 4, 3) := by decide +kernel
theorem d_Da_changedByTrial_26 : decode prog_3_method_22_code 26 = .ok (.ifCond .eq 7, 3) := by decide +kernel
theorem d_Da_changedByTrial_34 : decode prog_3_method_22_code 34 = .ok (.istore 6, 2) := by decide +kernel
theorem d_Da_changedByTrial_36 : decode prog_3_method_22_code 36 = .ok (.aload_n 0, 1) := by decide +kernel
theorem d_Da_changedByTrial_37 : decode prog_3_method_22_code 37 = .ok (.iload_n 1, 1) := by decide +kernel
theorem d_Da_changedByTrial_38 : decode prog_3_method_22_code 38 = .ok (.iload_n 2, 1) := by decide +kernel
theorem d_Da_changedByTrial_39 : decode prog_3_method_22_code 39 = .ok (.iload 5, 2) := by decide +kernel
theorem d_Da_changedByTrial_41 : decode prog_3_method_22_code 41 = .ok (.invokevirtual 114, 3) := by decide +kernel
theorem lk_Da_114 : Cond.methodLink "ShadeTown$Day" 114 ⟨"ShadeTown$Day", "isShadedOnTrial", "(III)Z"⟩ ∈ tblG := atG 1193 (by decide +kernel) rfl
theorem d_Da_changedByTrial_44 : decode prog_3_method_22_code 44 = .ok (.istore 7, 2) := by decide +kernel
theorem d_Da_changedByTrial_46 : decode prog_3_method_22_code 46 = .ok (.iload 6, 2) := by decide +kernel
theorem d_Da_changedByTrial_48 : decode prog_3_method_22_code 48 = .ok (.iload 7, 2) := by decide +kernel
theorem d_Da_changedByTrial_53 : decode prog_3_method_22_code 53 = .ok (.iload 7, 2) := by decide +kernel
theorem d_Da_changedByTrial_55 : decode prog_3_method_22_code 55 = .ok (.iload_n 3, 1) := by decide +kernel
theorem d_Da_changedByTrial_59 : decode prog_3_method_22_code 59 = .ok (.iinc 4 1, 3) := by decide +kernel
theorem d_Da_changedByTrial_56 : decode prog_3_method_22_code 56 = .ok (.if_icmp .ne 6, 3) := by decide +kernel
theorem d_Da_changedByTrial_50 : decode prog_3_method_22_code 50 = .ok (.if_icmp .eq 12, 3) := by decide +kernel
theorem d_Da_changedByTrial_62 : decode prog_3_method_22_code 62 = .ok (.iinc 5 1, 3) := by decide +kernel
theorem d_Da_changedByTrial_65 : decode prog_3_method_22_code 65 = .ok (.goto (-54), 3) := by decide +kernel
theorem d_Da_changedByTrial_16 : decode prog_3_method_22_code 16 = .ok (.if_icmp .ge 52, 3) := by decide +kernel
def B_Da_changedByTrial_l11 (N : Nat) (a1 : Int32) (a2 : Int32) (a3 : Int32) (rec : Int32 → Int32 → Mem → Option (Int32 × Mem)) (x4 : Int32) (x5 : Int32) (σ : Mem) : Option (Int32 × Mem) :=
  if 144 ≤ x5 then
    (some (x4, σ))
  else
    (bnd1 (f_Da_whoCasts σ a2 x5) fun r23 =>
    bnd1 ((
      if r23 = 0 then
        (some 0)
      else
        (some 1)) : Option (Int32)) fun y26_s0 =>
    bnd1 (f_Da_isShadedOnTrial σ a1 a2 x5) fun r41 =>
    bnd1 ((
      if y26_s0 = r41 then
        (some x4)
      else
        (if r41 = a3 then
          (letv (x4 + 1) fun v59 =>
          some v59)
        else
          (some x4))) : Option (Int32)) fun y50_4 =>
    letv (x5 + 1) fun v62 =>
    rec y50_4 v62 σ)
def L_Da_changedByTrial_l11 (N : Nat) (a1 : Int32) (a2 : Int32) (a3 : Int32) : Nat → Int32 → Int32 → Mem → Option (Int32 × Mem)
  | 0, _, _, _ => none
  | k + 1, x4, x5, σ => B_Da_changedByTrial_l11 N a1 a2 a3 (L_Da_changedByTrial_l11 N a1 a2 a3 k) x4 x5 σ
set_option maxHeartbeats 4000000 in
set_option maxRecDepth 20000 in
theorem cL_Da_changedByTrial_l11 (Z : ZX) {Y : YX} {post : Option Value → Mem → Prop} {N : Nat} {a1 : Int32} {a2 : Int32} {a3 : Int32} {Good : Int32 × Mem → Prop} (hR : ∀ (v : Int32) (σr : Mem), Good (v, σr) → post (some (.int v)) σr) : ∀ (k : Nat) (x4 : Int32) (x5 : Int32) (σ : Mem) (res : Int32 × Mem), L_Da_changedByTrial_l11 N a1 a2 a3 k x4 x5 σ = some res → Good res → V (mkB Z) Y m_Da_changedByTrial 4 (QP (mkB Z) Y nC 0 0 post) 0 0 nC σ 11 [(0, rf Z 33), (1, .int a1), (2, .int a2), (3, .int a3), (4, .int x4), (5, .int x5)] [] := by
  intro k
  induction k with
  | zero => intro x4 x5 σ res h; cases h
  | succ k ih =>
    intro x4 x5 σ res h hg
    replace h : B_Da_changedByTrial_l11 N a1 a2 a3 (L_Da_changedByTrial_l11 N a1 a2 a3 k) x4 x5 σ = some res := h
    unfold B_Da_changedByTrial_l11 at h
    refine V.iload d_Da_changedByTrial_11 5 rfl ?_
    refine V.sipush (v := 144) d_Da_changedByTrial_13 (by decide) ?_
    refine V.icmp_ge (tgt := 68) d_Da_changedByTrial_16 (by decide) (fun hc16 => ?_) (fun hc16 => ?_)
    · replace h := ite_t hc16 h
      refine V.iload d_Da_changedByTrial_68 4 rfl ?_
      cases h
      exact V.iret rfl d_Da_changedByTrial_70 (hR _ _ hg)
    · replace h := ite_f hc16 h
      refine V.aload_n d_Da_changedByTrial_19 rfl 0 rfl ?_
      refine V.iload_n d_Da_changedByTrial_20 rfl 2 rfl ?_
      refine V.iload d_Da_changedByTrial_21 5 rfl ?_
      obtain ⟨r23, h1, h⟩ := bnd1_e h
      refine V.vI (as := [.int a2, .int x5]) (st := []) (c_Da_whoCasts Z h1) k_Da_whoCasts lk_Da_62 (by decide) rfl (by decide) ly_33 ok_Da.1 rfl (Nat.le_of_ble_eq_true rfl) d_Da_changedByTrial_23 ?_
      obtain ⟨s26, h1, h⟩ := bnd1_e h
      have J26_34 : ∀ (y26_s0 : Int32), s26 = y26_s0 → V (mkB Z) Y m_Da_changedByTrial 4 (QP (mkB Z) Y nC 0 0 post) 0 0 nC σ 34 [(0, rf Z 33), (1, .int a1), (2, .int a2), (3, .int a3), (4, .int x4), (5, .int x5)] [.int y26_s0] := by
        intro y26_s0 he
        rw [he] at h
        refine V.istore (lv' := [(6, .int y26_s0), (0, rf Z 33), (1, .int a1), (2, .int a2), (3, .int a3), (4, .int x4), (5, .int x5)]) d_Da_changedByTrial_34 (by decide) rfl ?_
        refine V.aload_n d_Da_changedByTrial_36 rfl 1 rfl ?_
        refine V.iload_n d_Da_changedByTrial_37 rfl 2 rfl ?_
        refine V.iload_n d_Da_changedByTrial_38 rfl 3 rfl ?_
        refine V.iload d_Da_changedByTrial_39 6 rfl ?_
        obtain ⟨r41, h1, h⟩ := bnd1_e h
        refine V.vI (as := [.int a1, .int a2, .int x5]) (st := []) (c_Da_isShadedOnTrial Z h1) k_Da_isShadedOnTrial lk_Da_114 (by decide) rfl (by decide) ly_33 ok_Da.1 rfl (Nat.le_of_ble_eq_true rfl) d_Da_changedByTrial_41 ?_
        refine V.istore (lv' := [(7, .int r41), (6, .int y26_s0), (0, rf Z 33), (1, .int a1), (2, .int a2), (3, .int a3), (4, .int x4), (5, .int x5)]) d_Da_changedByTrial_44 (by decide) rfl ?_
        refine V.iload d_Da_changedByTrial_46 1 rfl ?_
        refine V.iload d_Da_changedByTrial_48 0 rfl ?_
        obtain ⟨s50, h1, h⟩ := bnd1_e h
        have J50_62 : ∀ (y50_4 : Int32), s50 = y50_4 → V (mkB Z) Y m_Da_changedByTrial 4 (QP (mkB Z) Y nC 0 0 post) 0 0 nC σ 62 [(0, rf Z 33), (1, .int a1), (2, .int a2), (3, .int a3), (4, .int y50_4), (5, .int x5)] [] := by
          intro y50_4 he
          rw [he] at h
          obtain ⟨v62, e_v62, h⟩ := letv_e h
          refine V.iinc (v := v62) (lv' := [(5, .int v62), (0, rf Z 33), (1, .int a1), (2, .int a2), (3, .int a3), (4, .int y50_4)]) d_Da_changedByTrial_62 5 rfl (by rw [e_v62]; rfl) (by decide) rfl ?_
          refine V.goto (tgt := 11) d_Da_changedByTrial_65 (by decide) ?_
          exact V.pick [1, 2, 3, 4, 5, 0] rfl (ih _ _ _ _ h hg)
        replace h := h1
        refine V.icmp_eq (tgt := 62) d_Da_changedByTrial_50 (by decide) (fun hc50 => ?_) (fun hc50 => ?_)
        · replace h := ite_t hc50 h
          exact V.pick [2, 3, 4, 5, 6, 7] rfl (J50_62 _ (Option.some.inj h).symm)
        · replace h := ite_f hc50 h
          refine V.iload d_Da_changedByTrial_53 0 rfl ?_
          refine V.iload_n d_Da_changedByTrial_55 rfl 5 rfl ?_
          refine V.icmp_ne (tgt := 62) d_Da_changedByTrial_56 (by decide) (fun hc56 => ?_) (fun hc56 => ?_)
          · replace h := ite_f hc56 h
            exact V.pick [2, 3, 4, 5, 6, 7] rfl (J50_62 _ (Option.some.inj h).symm)
          · replace h := ite_t hc56 h
            obtain ⟨v59, e_v59, h⟩ := letv_e h
            refine V.iinc (v := v59) (lv' := [(4, .int v59), (7, .int r41), (6, .int y26_s0), (0, rf Z 33), (1, .int a1), (2, .int a2), (3, .int a3), (5, .int x5)]) d_Da_changedByTrial_59 6 rfl (by rw [e_v59]; rfl) (by decide) rfl ?_
            exact V.pick [3, 4, 5, 6, 0, 7] rfl (J50_62 _ (Option.some.inj h).symm)
      replace h := h1
      refine V.if_eq (tgt := 33) d_Da_changedByTrial_26 (by decide) (fun hc26 => ?_) (fun hc26 => ?_)
      · replace h := ite_t hc26 h
        refine V.iconst (v := 0) d_Da_changedByTrial_33 (by decide) ?_
        exact V.pick [0, 1, 2, 3, 4, 5] rfl (J26_34 _ (Option.some.inj h).symm)
      · replace h := ite_f hc26 h
        refine V.iconst (v := 1) d_Da_changedByTrial_29 (by decide) ?_
        refine V.goto (tgt := 34) d_Da_changedByTrial_30 (by decide) ?_
        exact V.pick [0, 1, 2, 3, 4, 5] rfl (J26_34 _ (Option.some.inj h).symm)
def f_Da_changedByTrial (N : Nat) (σ : Mem) (a1 : Int32) (a2 : Int32) (a3 : Int32) : Option (Int32 × Mem) :=
  bnd1 (f_Da_layTrial N σ a2) fun σ2 =>
  L_Da_changedByTrial_l11 N a1 a2 a3 N 0 0 σ2
set_option maxHeartbeats 4000000 in
set_option maxRecDepth 20000 in
theorem c_Da_changedByTrial (Z : ZX) {N : Nat} {σ : Mem} {a1 : Int32} {a2 : Int32} {a3 : Int32} {r : Int32} {σ' : Mem} (h : f_Da_changedByTrial N σ a1 a2 a3 = some (r, σ')) : CI Z 4 m_Da_changedByTrial [rf Z 33, .int a1, .int a2, .int a3] σ r σ' := by
  refine Ct.of (by decide +kernel) (Nat.le_of_ble_eq_true rfl) (fun Y => ?_)
  show V (mkB Z) Y m_Da_changedByTrial 4 (QP (mkB Z) Y nC 0 0 (fun v t => v = some (.int r) ∧ t = σ')) 0 0 nC σ 0 [(0, rf Z 33), (1, .int a1), (2, .int a2), (3, .int a3)] []
  unfold f_Da_changedByTrial at h
  refine V.aload_n d_Da_changedByTrial_0 rfl 0 rfl ?_
  refine V.iload_n d_Da_changedByTrial_1 rfl 2 rfl ?_
  obtain ⟨σ2, h1, h⟩ := bnd1_e h
  refine V.vN (as := [.int a2]) (st := []) (c_Da_layTrial Z h1) k_Da_layTrial lk_Da_110 (by decide) rfl (by decide) ly_33 ok_Da.1 rfl (Nat.le_of_ble_eq_true rfl) d_Da_changedByTrial_2 ?_
  refine V.iconst (v := 0) d_Da_changedByTrial_5 (by decide) ?_
  refine V.istore (lv' := [(4, .int 0), (0, rf Z 33), (1, .int a1), (2, .int a2), (3, .int a3)]) d_Da_changedByTrial_6 (by decide) rfl ?_
  refine V.iconst (v := 0) d_Da_changedByTrial_8 (by decide) ?_
  refine V.istore (lv' := [(5, .int 0), (4, .int 0), (0, rf Z 33), (1, .int a1), (2, .int a2), (3, .int a3)]) d_Da_changedByTrial_9 (by decide) rfl ?_
  refine V.pick [2, 3, 4, 5, 1, 0] rfl (cL_Da_changedByTrial_l11 Z (Good := fun z => z = _) (fun r11v r11m he => ?_) N _ _ _ _ h rfl)
  · cases he
    exact ⟨rfl, rfl⟩
abbrev m_Sh_hat : MI := (⟨"ShadeTown", "hat", "(IIII)I"⟩, prog_1_method_27_code, 8, (Option.some Jvm.ClassFile.FieldType.int))
theorem d_Sh_hat_0 : decode prog_1_method_27_code 0 = .ok (.aload_n 0, 1) := by decide +kernel
theorem d_Sh_hat_1 : decode prog_1_method_27_code 1 = .ok (.getfield 38, 3) := by decide +kernel
theorem d_Sh_hat_4 : decode prog_1_method_27_code 4 = .ok (.iload_n 1, 1) := by decide +kernel
theorem d_Sh_hat_5 : decode prog_1_method_27_code 5 = .ok (.iconst 3, 1) := by decide +kernel
theorem d_Sh_hat_6 : decode prog_1_method_27_code 6 = .ok (.invokevirtual 149, 3) := by decide +kernel
theorem d_Sh_hat_32 : decode prog_1_method_27_code 32 = .ok (.iconst (-1), 1) := by decide +kernel
theorem d_Sh_hat_33 : decode prog_1_method_27_code 33 = .ok (.ireturn, 1) := by decide +kernel
theorem d_Sh_hat_12 : decode prog_1_method_27_code 12 = .ok (.aload_n 0, 1) := by decide +kernel
theorem d_Sh_hat_13 : decode prog_1_method_27_code 13 = .ok (.iload_n 2, 1) := by decide +kernel
theorem d_Sh_hat_14 : decode prog_1_method_27_code 14 = .ok (.iload_n 3, 1) := by decide +kernel
theorem d_Sh_hat_15 : decode prog_1_method_27_code 15 = .ok (.invokevirtual 152, 3) := by decide +kernel
theorem d_Sh_hat_21 : decode prog_1_method_27_code 21 = .ok (.iload 4, 2) := by decide +kernel
theorem d_Sh_hat_26 : decode prog_1_method_27_code 26 = .ok (.iload 4, 2) := by decide +kernel
theorem d_Sh_hat_28 : decode prog_1_method_27_code 28 = .ok (.iconst 1, 1) := by decide +kernel
theorem d_Sh_hat_34 : decode prog_1_method_27_code 34 = .ok (.aload_n 0, 1) := by decide +kernel
theorem d_Sh_hat_35 : decode prog_1_method_27_code 35 = .ok (.getfield 38, 3) := by decide +kernel
theorem d_Sh_hat_38 : decode prog_1_method_27_code 38 = .ok (.iload_n 1, 1) := by decide +kernel
theorem d_Sh_hat_39 : decode prog_1_method_27_code 39 = .ok (.bipush 12, 2) := by decide +kernel
theorem d_Sh_hat_41 : decode prog_1_method_27_code 41 = .ok (.iload_n 3, 1) := by decide +kernel
theorem d_Sh_hat_42 : decode prog_1_method_27_code 42 = .ok (.imul, 1) := by decide +kernel
theorem d_Sh_hat_43 : decode prog_1_method_27_code 43 = .ok (.iload_n 2, 1) := by decide +kernel
theorem d_Sh_hat_44 : decode prog_1_method_27_code 44 = .ok (.iadd, 1) := by decide +kernel
theorem d_Sh_hat_45 : decode prog_1_method_27_code 45 = .ok (.aload_n 0, 1) := by decide +kernel
theorem d_Sh_hat_46 : decode prog_1_method_27_code 46 = .ok (.getfield 38, 3) := by decide +kernel
theorem d_Sh_hat_49 : decode prog_1_method_27_code 49 = .ok (.getfield 169, 3) := by decide +kernel
theorem d_Sh_hat_52 : decode prog_1_method_27_code 52 = .ok (.iload_n 1, 1) := by decide +kernel
theorem d_Sh_hat_53 : decode prog_1_method_27_code 53 = .ok (.iaload, 1) := by decide +kernel
theorem d_Sh_hat_54 : decode prog_1_method_27_code 54 = .ok (.invokevirtual 304, 3) := by decide +kernel
theorem d_Sh_hat_57 : decode prog_1_method_27_code 57 = .ok (.aload_n 0, 1) := by decide +kernel
theorem d_Sh_hat_58 : decode prog_1_method_27_code 58 = .ok (.invokevirtual 181, 3) := by decide +kernel
theorem d_Sh_hat_61 : decode prog_1_method_27_code 61 = .ok (.astore 5, 2) := by decide +kernel
theorem d_Sh_hat_63 : decode prog_1_method_27_code 63 = .ok (.iconst 0, 1) := by decide +kernel
theorem d_Sh_hat_64 : decode prog_1_method_27_code 64 = .ok (.istore 6, 2) := by decide +kernel
theorem d_Sh_hat_66 : decode prog_1_method_27_code 66 = .ok (.iconst 0, 1) := by decide +kernel
theorem d_Sh_hat_67 : decode prog_1_method_27_code 67 = .ok (.istore 7, 2) := by decide +kernel
theorem d_Sh_hat_69 : decode prog_1_method_27_code 69 = .ok (.iload 7, 2) := by decide +kernel
theorem d_Sh_hat_71 : decode prog_1_method_27_code 71 = .ok (.bipush 24, 2) := by decide +kernel
theorem d_Sh_hat_105 : decode prog_1_method_27_code 105 = .ok (.iload 6, 2) := by decide +kernel
theorem d_Sh_hat_107 : decode prog_1_method_27_code 107 = .ok (.ireturn, 1) := by decide +kernel
theorem d_Sh_hat_76 : decode prog_1_method_27_code 76 = .ok (.iload 6, 2) := by decide +kernel
theorem d_Sh_hat_78 : decode prog_1_method_27_code 78 = .ok (.aload 5, 2) := by decide +kernel
theorem d_Sh_hat_80 : decode prog_1_method_27_code 80 = .ok (.iload_n 1, 1) := by decide +kernel
theorem d_Sh_hat_81 : decode prog_1_method_27_code 81 = .ok (.iload 7, 2) := by decide +kernel
theorem d_Sh_hat_83 : decode prog_1_method_27_code 83 = .ok (.iload 4, 2) := by decide +kernel
theorem d_Sh_hat_92 : decode prog_1_method_27_code 92 = .ok (.iconst 0, 1) := by decide +kernel
theorem d_Sh_hat_88 : decode prog_1_method_27_code 88 = .ok (.iconst 1, 1) := by decide +kernel
theorem d_Sh_hat_89 : decode prog_1_method_27_code 89 = .ok (.goto 4, 3) := by decide +kernel
theorem d_Sh_hat_85 : decode prog_1_method_27_code 85 = .ok (.ifCond .ne 7, 3) := by decide +kernel
theorem d_Sh_hat_93 : decode prog_1_method_27_code 93 = .ok (.invokevirtual 319, 3) := by decide +kernel
theorem k_Da_changedByTrial : MOk m_Da_changedByTrial 3 ∧ IOk m_Da_changedByTrial := ⟨⟨atG 1191 (by decide +kernel) rfl, atG 116 (by decide +kernel) rfl, ⟨by decide, by decide⟩, by decide +kernel, by decide⟩, atG 1189 (by decide +kernel) rfl, atG 1190 (by decide +kernel) rfl⟩
theorem lk_Sh_319 : Cond.methodLink "ShadeTown" 319 ⟨"ShadeTown$Day", "changedByTrial", "(IIZ)I"⟩ ∈ tblG := atG 1188 (by decide +kernel) rfl
theorem d_Sh_hat_96 : decode prog_1_method_27_code 96 = .ok (.iadd, 1) := by decide +kernel
theorem d_Sh_hat_97 : decode prog_1_method_27_code 97 = .ok (.istore 6, 2) := by decide +kernel
theorem d_Sh_hat_99 : decode prog_1_method_27_code 99 = .ok (.iinc 7 1, 3) := by decide +kernel
theorem d_Sh_hat_102 : decode prog_1_method_27_code 102 = .ok (.goto (-33), 3) := by decide +kernel
theorem d_Sh_hat_73 : decode prog_1_method_27_code 73 = .ok (.if_icmp .ge 32, 3) := by decide +kernel
theorem d_Sh_hat_29 : decode prog_1_method_27_code 29 = .ok (.if_icmp .le 5, 3) := by decide +kernel
theorem d_Sh_hat_23 : decode prog_1_method_27_code 23 = .ok (.ifCond .lt 9, 3) := by decide +kernel
theorem d_Sh_hat_18 : decode prog_1_method_27_code 18 = .ok (.ifCond .eq 14, 3) := by decide +kernel
theorem d_Sh_hat_9 : decode prog_1_method_27_code 9 = .ok (.ifCond .eq 23, 3) := by decide +kernel
def B_Sh_hat_l69 (N : Nat) (a1 : Int32) (a4 : Int32) (rec : Int32 → Int32 → Mem → Option (Int32 × Mem)) (x6 : Int32) (x7 : Int32) (σ : Mem) : Option (Int32 × Mem) :=
  if 24 ≤ x7 then
    (some (x6, σ))
  else
    (bnd1 ((
      if a4 = 0 then
        (some 1)
      else
        (some 0)) : Option (Int32)) fun y85_s4 =>
    bnd2 (f_Da_changedByTrial N σ a1 x7 y85_s4) fun r93 σ93 =>
    letv (x6 + r93) fun v97 =>
    letv (x7 + 1) fun v99 =>
    rec v97 v99 σ93)
def L_Sh_hat_l69 (N : Nat) (a1 : Int32) (a4 : Int32) : Nat → Int32 → Int32 → Mem → Option (Int32 × Mem)
  | 0, _, _, _ => none
  | k + 1, x6, x7, σ => B_Sh_hat_l69 N a1 a4 (L_Sh_hat_l69 N a1 a4 k) x6 x7 σ
set_option maxHeartbeats 4000000 in
set_option maxRecDepth 20000 in
theorem cL_Sh_hat_l69 (Z : ZX) {Y : YX} {post : Option Value → Mem → Prop} {N : Nat} {a1 : Int32} {a4 : Int32} {Good : Int32 × Mem → Prop} (hR : ∀ (v : Int32) (σr : Mem), Good (v, σr) → post (some (.int v)) σr) : ∀ (k : Nat) (x6 : Int32) (x7 : Int32) (σ : Mem) (res : Int32 × Mem), L_Sh_hat_l69 N a1 a4 k x6 x7 σ = some res → Good res → V (mkB Z) Y m_Sh_hat 7 (QP (mkB Z) Y nC 0 0 post) 0 0 nC σ 69 [(1, .int a1), (4, .int a4), (5, rf Z 33), (6, .int x6), (7, .int x7)] [] := by
  intro k
  induction k with
  | zero => intro x6 x7 σ res h; cases h
  | succ k ih =>
    intro x6 x7 σ res h hg
    replace h : B_Sh_hat_l69 N a1 a4 (L_Sh_hat_l69 N a1 a4 k) x6 x7 σ = some res := h
    unfold B_Sh_hat_l69 at h
    refine V.iload d_Sh_hat_69 4 rfl ?_
    refine V.bipush (v := 24) d_Sh_hat_71 (by decide) ?_
    refine V.icmp_ge (tgt := 105) d_Sh_hat_73 (by decide) (fun hc73 => ?_) (fun hc73 => ?_)
    · replace h := ite_t hc73 h
      refine V.iload d_Sh_hat_105 3 rfl ?_
      cases h
      exact V.iret rfl d_Sh_hat_107 (hR _ _ hg)
    · replace h := ite_f hc73 h
      refine V.iload d_Sh_hat_76 3 rfl ?_
      refine V.aload d_Sh_hat_78 2 rfl ?_
      refine V.iload_n d_Sh_hat_80 rfl 0 rfl ?_
      refine V.iload d_Sh_hat_81 4 rfl ?_
      refine V.iload d_Sh_hat_83 1 rfl ?_
      obtain ⟨s85, h1, h⟩ := bnd1_e h
      have J85_93 : ∀ (y85_s4 : Int32), s85 = y85_s4 → V (mkB Z) Y m_Sh_hat 7 (QP (mkB Z) Y nC 0 0 post) 0 0 nC σ 93 [(1, .int a1), (4, .int a4), (5, rf Z 33), (7, .int x7)] [.int y85_s4, .int x7, .int a1, rf Z 33, .int x6] := by
        intro y85_s4 he
        rw [he] at h
        obtain ⟨r93, σ93, h1, h⟩ := bnd2_e h
        refine V.vI (as := [.int a1, .int x7, .int y85_s4]) (st := [.int x6]) (c_Da_changedByTrial Z h1) k_Da_changedByTrial lk_Sh_319 (by decide) rfl (by decide) ly_33 ok_Da.1 rfl (Nat.le_of_ble_eq_true rfl) d_Sh_hat_93 ?_
        refine V.iadd d_Sh_hat_96 ?_
        obtain ⟨v97, e_v97, h⟩ := letv_e h
        refine V.topI e_v97 ?_
        refine V.istore (lv' := [(6, .int v97), (1, .int a1), (4, .int a4), (5, rf Z 33), (7, .int x7)]) d_Sh_hat_97 (by decide) rfl ?_
        obtain ⟨v99, e_v99, h⟩ := letv_e h
        refine V.iinc (v := v99) (lv' := [(7, .int v99), (6, .int v97), (1, .int a1), (4, .int a4), (5, rf Z 33)]) d_Sh_hat_99 4 rfl (by rw [e_v99]; rfl) (by decide) rfl ?_
        refine V.goto (tgt := 69) d_Sh_hat_102 (by decide) ?_
        exact V.pick [2, 3, 4, 1, 0] rfl (ih _ _ _ _ h hg)
      replace h := h1
      refine V.if_ne (tgt := 92) d_Sh_hat_85 (by decide) (fun hc85 => ?_) (fun hc85 => ?_)
      · replace h := ite_f hc85 h
        refine V.iconst (v := 0) d_Sh_hat_92 (by decide) ?_
        exact V.pick [0, 1, 2, 4] rfl (J85_93 _ (Option.some.inj h).symm)
      · replace h := ite_t hc85 h
        refine V.iconst (v := 1) d_Sh_hat_88 (by decide) ?_
        refine V.goto (tgt := 93) d_Sh_hat_89 (by decide) ?_
        exact V.pick [0, 1, 2, 4] rfl (J85_93 _ (Option.some.inj h).symm)
def f_Sh_hat (N : Nat) (σ : Mem) (a1 : Int32) (a2 : Int32) (a3 : Int32) (a4 : Int32) : Option (Int32 × Mem) :=
  bnd1 (f_To_isStandingOf σ a1 3) fun r6 =>
  if r6 = 0 then
    (some ((-1), σ))
  else
    (bnd2 (f_Sh_isFree N σ a2 a3) fun r15 σ15 =>
    if r15 = 0 then
      (some ((-1), σ15))
    else
      (if a4 < 0 then
        (some ((-1), σ15))
      else
        (if a4 ≤ 1 then
          (grd (inb a1 17) <|
          bnd1 (f_To_trial σ15 a1 ((12 * a3) + a2) (mI σ15 22 (a1.toNatClampNeg))) fun σ54 =>
          bnd1 (f_Sh_today N σ54) fun σ58 =>
          L_Sh_hat_l69 N a1 a4 N 0 0 σ58)
        else
          (some ((-1), σ15)))))
set_option maxHeartbeats 4000000 in
set_option maxRecDepth 20000 in
theorem c_Sh_hat (Z : ZX) {N : Nat} {σ : Mem} {a1 : Int32} {a2 : Int32} {a3 : Int32} {a4 : Int32} {r : Int32} {σ' : Mem} (h : f_Sh_hat N σ a1 a2 a3 a4 = some (r, σ')) : CI Z 7 m_Sh_hat [rf Z 0, .int a1, .int a2, .int a3, .int a4] σ r σ' := by
  refine Ct.of (by decide +kernel) (Nat.le_of_ble_eq_true rfl) (fun Y => ?_)
  show V (mkB Z) Y m_Sh_hat 7 (QP (mkB Z) Y nC 0 0 (fun v t => v = some (.int r) ∧ t = σ')) 0 0 nC σ 0 [(0, rf Z 0), (1, .int a1), (2, .int a2), (3, .int a3), (4, .int a4)] []
  unfold f_Sh_hat at h
  refine V.aload_n d_Sh_hat_0 rfl 0 rfl ?_
  refine V.getR (r := 19) ok_Sh fl_Sh_38 (by decide) (by decide) ly_0 rfl d_Sh_hat_1 ?_
  refine V.iload_n d_Sh_hat_4 rfl 1 rfl ?_
  refine V.iconst (v := 3) d_Sh_hat_5 (by decide) ?_
  obtain ⟨r6, h1, h⟩ := bnd1_e h
  refine V.vI (as := [.int a1, .int 3]) (st := []) (c_To_isStandingOf Z h1) k_To_isStandingOf lk_Sh_149 (by decide) rfl (by decide) ly_19 ok_To.1 rfl (Nat.le_of_ble_eq_true rfl) d_Sh_hat_6 ?_
  refine V.if_eq (tgt := 32) d_Sh_hat_9 (by decide) (fun hc9 => ?_) (fun hc9 => ?_)
  · replace h := ite_t hc9 h
    refine V.iconst (v := (-1)) d_Sh_hat_32 (by decide) ?_
    cases h
    exact V.iret rfl d_Sh_hat_33 ⟨rfl, rfl⟩
  · replace h := ite_f hc9 h
    refine V.aload_n d_Sh_hat_12 rfl 0 rfl ?_
    refine V.iload_n d_Sh_hat_13 rfl 2 rfl ?_
    refine V.iload_n d_Sh_hat_14 rfl 3 rfl ?_
    obtain ⟨r15, σ15, h1, h⟩ := bnd2_e h
    refine V.vI (as := [.int a2, .int a3]) (st := []) (c_Sh_isFree Z h1) k_Sh_isFree lk_Sh_152 (by decide) rfl (by decide) ly_0 ok_Sh.1 rfl (Nat.le_of_ble_eq_true rfl) d_Sh_hat_15 ?_
    refine V.if_eq (tgt := 32) d_Sh_hat_18 (by decide) (fun hc18 => ?_) (fun hc18 => ?_)
    · replace h := ite_t hc18 h
      refine V.iconst (v := (-1)) d_Sh_hat_32 (by decide) ?_
      cases h
      exact V.iret rfl d_Sh_hat_33 ⟨rfl, rfl⟩
    · replace h := ite_f hc18 h
      refine V.iload d_Sh_hat_21 4 rfl ?_
      refine V.if_lt (tgt := 32) d_Sh_hat_23 (by decide) (fun hc23 => ?_) (fun hc23 => ?_)
      · replace h := ite_t hc23 h
        refine V.iconst (v := (-1)) d_Sh_hat_32 (by decide) ?_
        cases h
        exact V.iret rfl d_Sh_hat_33 ⟨rfl, rfl⟩
      · replace h := ite_f hc23 h
        refine V.iload d_Sh_hat_26 4 rfl ?_
        refine V.iconst (v := 1) d_Sh_hat_28 (by decide) ?_
        refine V.icmp_le (tgt := 34) d_Sh_hat_29 (by decide) (fun hc29 => ?_) (fun hc29 => ?_)
        · replace h := ite_t hc29 h
          refine V.aload_n d_Sh_hat_34 rfl 0 rfl ?_
          refine V.getR (r := 19) ok_Sh fl_Sh_38 (by decide) (by decide) ly_0 rfl d_Sh_hat_35 ?_
          refine V.iload_n d_Sh_hat_38 rfl 1 rfl ?_
          refine V.bipush (v := 12) d_Sh_hat_39 (by decide) ?_
          refine V.iload_n d_Sh_hat_41 rfl 3 rfl ?_
          refine V.imul d_Sh_hat_42 ?_
          refine V.iload_n d_Sh_hat_43 rfl 2 rfl ?_
          refine V.iadd d_Sh_hat_44 ?_
          refine V.aload_n d_Sh_hat_45 rfl 0 rfl ?_
          refine V.getR (r := 19) ok_Sh fl_Sh_38 (by decide) (by decide) ly_0 rfl d_Sh_hat_46 ?_
          refine V.getR (r := 22) ok_To fl_Sh_169 (by decide) (by decide) ly_19 rfl d_Sh_hat_49 ?_
          refine V.iload_n d_Sh_hat_52 rfl 1 rfl ?_
          obtain ⟨gq, h⟩ := grd_e h
          refine V.ra (by decide) ly_22 (inb_e gq) rfl d_Sh_hat_53 ?_
          obtain ⟨σ54, h1, h⟩ := bnd1_e h
          refine V.vN (as := [.int a1, .int ((12 * a3) + a2), .int (mI σ15 22 (a1.toNatClampNeg))]) (st := []) (c_To_trial Z h1) k_To_trial lk_Sh_304 (by decide) rfl (by decide) ly_19 ok_To.1 rfl (Nat.le_of_ble_eq_true rfl) d_Sh_hat_54 ?_
          refine V.aload_n d_Sh_hat_57 rfl 0 rfl ?_
          obtain ⟨σ58, h1, h⟩ := bnd1_e h
          refine V.vA (as := []) (st := []) (c_Sh_today Z h1) k_Sh_today lk_Sh_181 (by decide) rfl (by decide) ly_0 ok_Sh.1 rfl (Nat.le_of_ble_eq_true rfl) d_Sh_hat_58 ?_
          refine V.astore (lv' := [(5, rf Z 33), (0, rf Z 0), (1, .int a1), (2, .int a2), (3, .int a3), (4, .int a4)]) d_Sh_hat_61 (by decide) rfl ?_
          refine V.iconst (v := 0) d_Sh_hat_63 (by decide) ?_
          refine V.istore (lv' := [(6, .int 0), (5, rf Z 33), (0, rf Z 0), (1, .int a1), (2, .int a2), (3, .int a3), (4, .int a4)]) d_Sh_hat_64 (by decide) rfl ?_
          refine V.iconst (v := 0) d_Sh_hat_66 (by decide) ?_
          refine V.istore (lv' := [(7, .int 0), (6, .int 0), (5, rf Z 33), (0, rf Z 0), (1, .int a1), (2, .int a2), (3, .int a3), (4, .int a4)]) d_Sh_hat_67 (by decide) rfl ?_
          refine V.pick [4, 7, 2, 1, 0] rfl (cL_Sh_hat_l69 Z (Good := fun z => z = _) (fun r69v r69m he => ?_) N _ _ _ _ h rfl)
          · cases he
            exact ⟨rfl, rfl⟩
        · replace h := ite_f hc29 h
          refine V.iconst (v := (-1)) d_Sh_hat_32 (by decide) ?_
          cases h
          exact V.iret rfl d_Sh_hat_33 ⟨rfl, rfl⟩
abbrev m_Wi_isHeldByHouse : MI := (⟨"ShadeTown$Wishes", "isHeldByHouse", "(LShadeTown$Town;II)Z"⟩, prog_11_method_12_code, 5, (Option.some Jvm.ClassFile.FieldType.boolean))
theorem d_Wi_isHeldByHouse_0 : decode prog_11_method_12_code 0 = .ok (.aload_n 1, 1) := by decide +kernel
theorem d_Wi_isHeldByHouse_1 : decode prog_11_method_12_code 1 = .ok (.iload_n 2, 1) := by decide +kernel
theorem d_Wi_isHeldByHouse_2 : decode prog_11_method_12_code 2 = .ok (.invokevirtual 87, 3) := by decide +kernel
theorem lk_Wi_87 : Cond.methodLink "ShadeTown$Wishes" 87 ⟨"ShadeTown$Town", "houseOn", "(I)I"⟩ ∈ tblG := atG 1206 (by decide +kernel) rfl
theorem d_Wi_isHeldByHouse_5 : decode prog_11_method_12_code 5 = .ok (.istore 4, 2) := by decide +kernel
theorem d_Wi_isHeldByHouse_7 : decode prog_11_method_12_code 7 = .ok (.iload 4, 2) := by decide +kernel
theorem d_Wi_isHeldByHouse_9 : decode prog_11_method_12_code 9 = .ok (.iconst (-1), 1) := by decide +kernel
theorem d_Wi_isHeldByHouse_26 : decode prog_11_method_12_code 26 = .ok (.iconst 0, 1) := by decide +kernel
theorem d_Wi_isHeldByHouse_27 : decode prog_11_method_12_code 27 = .ok (.ireturn, 1) := by decide +kernel
theorem d_Wi_isHeldByHouse_13 : decode prog_11_method_12_code 13 = .ok (.iload_n 3, 1) := by decide +kernel
theorem d_Wi_isHeldByHouse_14 : decode prog_11_method_12_code 14 = .ok (.iload 4, 2) := by decide +kernel
theorem d_Wi_isHeldByHouse_16 : decode prog_11_method_12_code 16 = .ok (.ishr, 1) := by decide +kernel
theorem d_Wi_isHeldByHouse_17 : decode prog_11_method_12_code 17 = .ok (.iconst 1, 1) := by decide +kernel
theorem d_Wi_isHeldByHouse_18 : decode prog_11_method_12_code 18 = .ok (.iand, 1) := by decide +kernel
theorem d_Wi_isHeldByHouse_22 : decode prog_11_method_12_code 22 = .ok (.iconst 1, 1) := by decide +kernel
theorem d_Wi_isHeldByHouse_23 : decode prog_11_method_12_code 23 = .ok (.goto 4, 3) := by decide +kernel
theorem d_Wi_isHeldByHouse_19 : decode prog_11_method_12_code 19 = .ok (.ifCond .ne 7, 3) := by decide +kernel
theorem d_Wi_isHeldByHouse_10 : decode prog_11_method_12_code 10 = .ok (.if_icmp .eq 16, 3) := by decide +kernel
def f_Wi_isHeldByHouse (N : Nat) (σ : Mem) (a2 : Int32) (a3 : Int32) : Option (Int32) :=
  bnd1 (f_To_houseOn N σ a2) fun r2 =>
  if r2 = (-1) then
    (some 0)
  else
    (if (a3 >>> (r2 &&& 31)) &&& 1 = 0 then
      (some 1)
    else
      (some 0))
set_option maxHeartbeats 4000000 in
set_option maxRecDepth 20000 in
theorem c_Wi_isHeldByHouse (Z : ZX) {N : Nat} {σ : Mem} {a2 : Int32} {a3 : Int32} {r : Int32} (h : f_Wi_isHeldByHouse N σ a2 a3 = some r) : CI Z 4 m_Wi_isHeldByHouse [rf Z 56, rf Z 19, .int a2, .int a3] σ r σ := by
  refine Ct.of (by decide +kernel) (Nat.le_of_ble_eq_true rfl) (fun Y => ?_)
  show V (mkB Z) Y m_Wi_isHeldByHouse 4 (QP (mkB Z) Y nC 0 0 (fun v t => v = some (.int r) ∧ t = σ)) 0 0 nC σ 0 [(0, rf Z 56), (1, rf Z 19), (2, .int a2), (3, .int a3)] []
  unfold f_Wi_isHeldByHouse at h
  refine V.aload_n d_Wi_isHeldByHouse_0 rfl 1 rfl ?_
  refine V.iload_n d_Wi_isHeldByHouse_1 rfl 2 rfl ?_
  obtain ⟨r2, h1, h⟩ := bnd1_e h
  refine V.vI (as := [.int a2]) (st := []) (c_To_houseOn Z h1) k_To_houseOn lk_Wi_87 (by decide) rfl (by decide) ly_19 ok_To.1 rfl (Nat.le_of_ble_eq_true rfl) d_Wi_isHeldByHouse_2 ?_
  refine V.istore (lv' := [(4, .int r2), (0, rf Z 56), (1, rf Z 19), (2, .int a2), (3, .int a3)]) d_Wi_isHeldByHouse_5 (by decide) rfl ?_
  refine V.iload d_Wi_isHeldByHouse_7 0 rfl ?_
  refine V.iconst (v := (-1)) d_Wi_isHeldByHouse_9 (by decide) ?_
  refine V.icmp_eq (tgt := 26) d_Wi_isHeldByHouse_10 (by decide) (fun hc10 => ?_) (fun hc10 => ?_)
  · replace h := ite_t hc10 h
    refine V.iconst (v := 0) d_Wi_isHeldByHouse_26 (by decide) ?_
    cases h
    exact V.zret rfl rfl d_Wi_isHeldByHouse_27 ⟨rfl, rfl⟩
  · replace h := ite_f hc10 h
    refine V.iload_n d_Wi_isHeldByHouse_13 rfl 4 rfl ?_
    refine V.iload d_Wi_isHeldByHouse_14 0 rfl ?_
    refine V.ishr d_Wi_isHeldByHouse_16 ?_
    refine V.iconst (v := 1) d_Wi_isHeldByHouse_17 (by decide) ?_
    refine V.iand d_Wi_isHeldByHouse_18 ?_
    refine V.if_ne (tgt := 26) d_Wi_isHeldByHouse_19 (by decide) (fun hc19 => ?_) (fun hc19 => ?_)
    · replace h := ite_f hc19 h
      refine V.iconst (v := 0) d_Wi_isHeldByHouse_26 (by decide) ?_
      cases h
      exact V.zret rfl rfl d_Wi_isHeldByHouse_27 ⟨rfl, rfl⟩
    · replace h := ite_t hc19 h
      refine V.iconst (v := 1) d_Wi_isHeldByHouse_22 (by decide) ?_
      refine V.goto (tgt := 27) d_Wi_isHeldByHouse_23 (by decide) ?_
      cases h
      exact V.zret rfl rfl d_Wi_isHeldByHouse_27 ⟨rfl, rfl⟩
abbrev m_Da_whoReaches : MI := (⟨"ShadeTown$Day", "whoReaches", "(II)I"⟩, prog_3_method_12_code, 3, (Option.some Jvm.ClassFile.FieldType.int))
theorem d_Da_whoReaches_0 : decode prog_3_method_12_code 0 = .ok (.iload_n 1, 1) := by decide +kernel
theorem d_Da_whoReaches_1 : decode prog_3_method_12_code 1 = .ok (.invokestatic 55, 3) := by decide +kernel
theorem d_Da_whoReaches_33 : decode prog_3_method_12_code 33 = .ok (.iconst 0, 1) := by decide +kernel
theorem d_Da_whoReaches_34 : decode prog_3_method_12_code 34 = .ok (.ireturn, 1) := by decide +kernel
theorem d_Da_whoReaches_7 : decode prog_3_method_12_code 7 = .ok (.iload_n 2, 1) := by decide +kernel
theorem d_Da_whoReaches_11 : decode prog_3_method_12_code 11 = .ok (.iload_n 2, 1) := by decide +kernel
theorem d_Da_whoReaches_12 : decode prog_3_method_12_code 12 = .ok (.sipush 144, 3) := by decide +kernel
theorem d_Da_whoReaches_18 : decode prog_3_method_12_code 18 = .ok (.aload_n 0, 1) := by decide +kernel
theorem d_Da_whoReaches_19 : decode prog_3_method_12_code 19 = .ok (.getfield 29, 3) := by decide +kernel
theorem d_Da_whoReaches_22 : decode prog_3_method_12_code 22 = .ok (.iload_n 1, 1) := by decide +kernel
theorem d_Da_whoReaches_23 : decode prog_3_method_12_code 23 = .ok (.sipush 144, 3) := by decide +kernel
theorem d_Da_whoReaches_26 : decode prog_3_method_12_code 26 = .ok (.imul, 1) := by decide +kernel
theorem d_Da_whoReaches_27 : decode prog_3_method_12_code 27 = .ok (.iload_n 2, 1) := by decide +kernel
theorem d_Da_whoReaches_28 : decode prog_3_method_12_code 28 = .ok (.iadd, 1) := by decide +kernel
theorem d_Da_whoReaches_29 : decode prog_3_method_12_code 29 = .ok (.iaload, 1) := by decide +kernel
theorem d_Da_whoReaches_30 : decode prog_3_method_12_code 30 = .ok (.goto 4, 3) := by decide +kernel
theorem d_Da_whoReaches_15 : decode prog_3_method_12_code 15 = .ok (.if_icmp .ge 18, 3) := by decide +kernel
theorem d_Da_whoReaches_8 : decode prog_3_method_12_code 8 = .ok (.ifCond .lt 25, 3) := by decide +kernel
theorem d_Da_whoReaches_4 : decode prog_3_method_12_code 4 = .ok (.ifCond .eq 29, 3) := by decide +kernel
def f_Da_whoReaches (σ : Mem) (a1 : Int32) (a2 : Int32) : Option (Int32) :=
  bnd1 (f_Sh_isHour a1) fun r1 =>
  if r1 = 0 then
    (some 0)
  else
    (if a2 < 0 then
      (some 0)
    else
      (if 144 ≤ a2 then
        (some 0)
      else
        (grd (inb ((a1 * 144) + a2) 3456) <|
        some (mI σ 38 (((a1 * 144) + a2).toNatClampNeg)))))
set_option maxHeartbeats 4000000 in
set_option maxRecDepth 20000 in
theorem c_Da_whoReaches (Z : ZX) {σ : Mem} {a1 : Int32} {a2 : Int32} {r : Int32} (h : f_Da_whoReaches σ a1 a2 = some r) : CI Z 1 m_Da_whoReaches [rf Z 33, .int a1, .int a2] σ r σ := by
  refine Ct.of (by decide +kernel) (Nat.le_of_ble_eq_true rfl) (fun Y => ?_)
  show V (mkB Z) Y m_Da_whoReaches 1 (QP (mkB Z) Y nC 0 0 (fun v t => v = some (.int r) ∧ t = σ)) 0 0 nC σ 0 [(0, rf Z 33), (1, .int a1), (2, .int a2)] []
  unfold f_Da_whoReaches at h
  refine V.iload_n d_Da_whoReaches_0 rfl 1 rfl ?_
  obtain ⟨r1, h1, h⟩ := bnd1_e h
  refine V.tI (as := [.int a1]) (st := []) (c_Sh_isHour Z h1) k_Sh_isHour ln_Da_55 (by decide) rfl rfl (Nat.le_of_ble_eq_true rfl) d_Da_whoReaches_1 ?_
  refine V.if_eq (tgt := 33) d_Da_whoReaches_4 (by decide) (fun hc4 => ?_) (fun hc4 => ?_)
  · replace h := ite_t hc4 h
    refine V.iconst (v := 0) d_Da_whoReaches_33 (by decide) ?_
    cases h
    exact V.iret rfl d_Da_whoReaches_34 ⟨rfl, rfl⟩
  · replace h := ite_f hc4 h
    refine V.iload_n d_Da_whoReaches_7 rfl 2 rfl ?_
    refine V.if_lt (tgt := 33) d_Da_whoReaches_8 (by decide) (fun hc8 => ?_) (fun hc8 => ?_)
    · replace h := ite_t hc8 h
      refine V.iconst (v := 0) d_Da_whoReaches_33 (by decide) ?_
      cases h
      exact V.iret rfl d_Da_whoReaches_34 ⟨rfl, rfl⟩
    · replace h := ite_f hc8 h
      refine V.iload_n d_Da_whoReaches_11 rfl 2 rfl ?_
      refine V.sipush (v := 144) d_Da_whoReaches_12 (by decide) ?_
      refine V.icmp_ge (tgt := 33) d_Da_whoReaches_15 (by decide) (fun hc15 => ?_) (fun hc15 => ?_)
      · replace h := ite_t hc15 h
        refine V.iconst (v := 0) d_Da_whoReaches_33 (by decide) ?_
        cases h
        exact V.iret rfl d_Da_whoReaches_34 ⟨rfl, rfl⟩
      · replace h := ite_f hc15 h
        refine V.aload_n d_Da_whoReaches_18 rfl 0 rfl ?_
        refine V.getR (r := 38) ok_Da fl_Da_29 (by decide) (by decide) ly_33 rfl d_Da_whoReaches_19 ?_
        refine V.iload_n d_Da_whoReaches_22 rfl 1 rfl ?_
        refine V.sipush (v := 144) d_Da_whoReaches_23 (by decide) ?_
        refine V.imul d_Da_whoReaches_26 ?_
        refine V.iload_n d_Da_whoReaches_27 rfl 2 rfl ?_
        refine V.iadd d_Da_whoReaches_28 ?_
        obtain ⟨gq, h⟩ := grd_e h
        refine V.ra (by decide) ly_38 (inb_e gq) rfl d_Da_whoReaches_29 ?_
        refine V.goto (tgt := 34) d_Da_whoReaches_30 (by decide) ?_
        cases h
        exact V.iret rfl d_Da_whoReaches_34 ⟨rfl, rfl⟩
abbrev m_Wi_whoReachesWish : MI := (⟨"ShadeTown$Wishes", "whoReachesWish", "(LShadeTown$Day;I)I"⟩, prog_11_method_13_code, 5, (Option.some Jvm.ClassFile.FieldType.int))
theorem d_Wi_whoReachesWish_0 : decode prog_11_method_13_code 0 = .ok (.iconst 0, 1) := by decide +kernel
theorem d_Wi_whoReachesWish_1 : decode prog_11_method_13_code 1 = .ok (.istore_n 3, 1) := by decide +kernel
theorem d_Wi_whoReachesWish_2 : decode prog_11_method_13_code 2 = .ok (.aload_n 0, 1) := by decide +kernel
theorem d_Wi_whoReachesWish_3 : decode prog_11_method_13_code 3 = .ok (.getfield 19, 3) := by decide +kernel
theorem d_Wi_whoReachesWish_6 : decode prog_11_method_13_code 6 = .ok (.iload_n 2, 1) := by decide +kernel
theorem d_Wi_whoReachesWish_7 : decode prog_11_method_13_code 7 = .ok (.iaload, 1) := by decide +kernel
theorem d_Wi_whoReachesWish_8 : decode prog_11_method_13_code 8 = .ok (.istore 4, 2) := by decide +kernel
theorem d_Wi_whoReachesWish_10 : decode prog_11_method_13_code 10 = .ok (.iload 4, 2) := by decide +kernel
theorem d_Wi_whoReachesWish_12 : decode prog_11_method_13_code 12 = .ok (.aload_n 0, 1) := by decide +kernel
theorem d_Wi_whoReachesWish_13 : decode prog_11_method_13_code 13 = .ok (.getfield 22, 3) := by decide +kernel
theorem d_Wi_whoReachesWish_16 : decode prog_11_method_13_code 16 = .ok (.iload_n 2, 1) := by decide +kernel
theorem d_Wi_whoReachesWish_17 : decode prog_11_method_13_code 17 = .ok (.iaload, 1) := by decide +kernel
theorem d_Wi_whoReachesWish_42 : decode prog_11_method_13_code 42 = .ok (.iload_n 3, 1) := by decide +kernel
theorem d_Wi_whoReachesWish_43 : decode prog_11_method_13_code 43 = .ok (.ireturn, 1) := by decide +kernel
theorem d_Wi_whoReachesWish_21 : decode prog_11_method_13_code 21 = .ok (.iload_n 3, 1) := by decide +kernel
theorem d_Wi_whoReachesWish_22 : decode prog_11_method_13_code 22 = .ok (.aload_n 1, 1) := by decide +kernel
theorem d_Wi_whoReachesWish_23 : decode prog_11_method_13_code 23 = .ok (.iload 4, 2) := by decide +kernel
theorem d_Wi_whoReachesWish_25 : decode prog_11_method_13_code 25 = .ok (.aload_n 0, 1) := by decide +kernel
theorem d_Wi_whoReachesWish_26 : decode prog_11_method_13_code 26 = .ok (.getfield 15, 3) := by decide +kernel
theorem d_Wi_whoReachesWish_29 : decode prog_11_method_13_code 29 = .ok (.iload_n 2, 1) := by decide +kernel
theorem d_Wi_whoReachesWish_30 : decode prog_11_method_13_code 30 = .ok (.iaload, 1) := by decide +kernel
theorem d_Wi_whoReachesWish_31 : decode prog_11_method_13_code 31 = .ok (.invokevirtual 91, 3) := by decide +kernel
theorem k_Da_whoReaches : MOk m_Da_whoReaches 2 ∧ IOk m_Da_whoReaches := ⟨⟨atG 1214 (by decide +kernel) rfl, atG 116 (by decide +kernel) rfl, ⟨by decide, by decide⟩, by decide +kernel, by decide⟩, atG 1212 (by decide +kernel) rfl, atG 1213 (by decide +kernel) rfl⟩
theorem lk_Wi_91 : Cond.methodLink "ShadeTown$Wishes" 91 ⟨"ShadeTown$Day", "whoReaches", "(II)I"⟩ ∈ tblG := atG 1211 (by decide +kernel) rfl
theorem d_Wi_whoReachesWish_34 : decode prog_11_method_13_code 34 = .ok (.ior, 1) := by decide +kernel
theorem d_Wi_whoReachesWish_35 : decode prog_11_method_13_code 35 = .ok (.istore_n 3, 1) := by decide +kernel
theorem d_Wi_whoReachesWish_36 : decode prog_11_method_13_code 36 = .ok (.iinc 4 1, 3) := by decide +kernel
theorem d_Wi_whoReachesWish_39 : decode prog_11_method_13_code 39 = .ok (.goto (-29), 3) := by decide +kernel
theorem d_Wi_whoReachesWish_18 : decode prog_11_method_13_code 18 = .ok (.if_icmp .ge 24, 3) := by decide +kernel
def B_Wi_whoReachesWish_l10 (N : Nat) (a2 : Int32) (σ : Mem) (rec : Int32 → Int32 → Option (Int32)) (x3 : Int32) (x4 : Int32) : Option (Int32) :=
  grd (inb a2 16) <|
  if (mI σ 59 (a2.toNatClampNeg)) ≤ x4 then
    (some x3)
  else
    (grd (inb a2 16) <|
    bnd1 (f_Da_whoReaches σ x4 (mI σ 57 (a2.toNatClampNeg))) fun r31 =>
    letv (x3 ||| r31) fun v35 =>
    letv (x4 + 1) fun v36 =>
    rec v35 v36)
def L_Wi_whoReachesWish_l10 (N : Nat) (a2 : Int32) (σ : Mem) : Nat → Int32 → Int32 → Option (Int32)
  | 0, _, _ => none
  | k + 1, x3, x4 => B_Wi_whoReachesWish_l10 N a2 σ (L_Wi_whoReachesWish_l10 N a2 σ k) x3 x4
set_option maxHeartbeats 4000000 in
set_option maxRecDepth 20000 in
theorem cL_Wi_whoReachesWish_l10 (Z : ZX) {Y : YX} {post : Option Value → Mem → Prop} {N : Nat} {a2 : Int32} {σ : Mem} {Good : Int32 → Prop} (hR : ∀ (v : Int32), Good v → post (some (.int v)) σ) : ∀ (k : Nat) (x3 : Int32) (x4 : Int32) (res : Int32), L_Wi_whoReachesWish_l10 N a2 σ k x3 x4 = some res → Good res → V (mkB Z) Y m_Wi_whoReachesWish 2 (QP (mkB Z) Y nC 0 0 post) 0 0 nC σ 10 [(0, rf Z 56), (1, rf Z 33), (2, .int a2), (3, .int x3), (4, .int x4)] [] := by
  intro k
  induction k with
  | zero => intro x3 x4 res h; cases h
  | succ k ih =>
    intro x3 x4 res h hg
    replace h : B_Wi_whoReachesWish_l10 N a2 σ (L_Wi_whoReachesWish_l10 N a2 σ k) x3 x4 = some res := h
    unfold B_Wi_whoReachesWish_l10 at h
    refine V.iload d_Wi_whoReachesWish_10 4 rfl ?_
    refine V.aload_n d_Wi_whoReachesWish_12 rfl 0 rfl ?_
    refine V.getR (r := 59) ok_Wi fl_Wi_22 (by decide) (by decide) ly_56 rfl d_Wi_whoReachesWish_13 ?_
    refine V.iload_n d_Wi_whoReachesWish_16 rfl 2 rfl ?_
    obtain ⟨gq, h⟩ := grd_e h
    refine V.ra (by decide) ly_59 (inb_e gq) rfl d_Wi_whoReachesWish_17 ?_
    refine V.icmp_ge (tgt := 42) d_Wi_whoReachesWish_18 (by decide) (fun hc18 => ?_) (fun hc18 => ?_)
    · replace h := ite_t hc18 h
      refine V.iload_n d_Wi_whoReachesWish_42 rfl 3 rfl ?_
      cases h
      exact V.iret rfl d_Wi_whoReachesWish_43 (hR _ hg)
    · replace h := ite_f hc18 h
      refine V.iload_n d_Wi_whoReachesWish_21 rfl 3 rfl ?_
      refine V.aload_n d_Wi_whoReachesWish_22 rfl 1 rfl ?_
      refine V.iload d_Wi_whoReachesWish_23 4 rfl ?_
      refine V.aload_n d_Wi_whoReachesWish_25 rfl 0 rfl ?_
      refine V.getR (r := 57) ok_Wi fl_Wi_15 (by decide) (by decide) ly_56 rfl d_Wi_whoReachesWish_26 ?_
      refine V.iload_n d_Wi_whoReachesWish_29 rfl 2 rfl ?_
      obtain ⟨gq, h⟩ := grd_e h
      refine V.ra (by decide) ly_57 (inb_e gq) rfl d_Wi_whoReachesWish_30 ?_
      obtain ⟨r31, h1, h⟩ := bnd1_e h
      refine V.vI (as := [.int x4, .int (mI σ 57 (a2.toNatClampNeg))]) (st := [.int x3]) (c_Da_whoReaches Z h1) k_Da_whoReaches lk_Wi_91 (by decide) rfl (by decide) ly_33 ok_Da.1 rfl (Nat.le_of_ble_eq_true rfl) d_Wi_whoReachesWish_31 ?_
      refine V.ior d_Wi_whoReachesWish_34 ?_
      obtain ⟨v35, e_v35, h⟩ := letv_e h
      refine V.topI e_v35 ?_
      refine V.istore_n (lv' := [(3, .int v35), (0, rf Z 56), (1, rf Z 33), (2, .int a2), (4, .int x4)]) d_Wi_whoReachesWish_35 rfl (by decide) rfl ?_
      obtain ⟨v36, e_v36, h⟩ := letv_e h
      refine V.iinc (v := v36) (lv' := [(4, .int v36), (3, .int v35), (0, rf Z 56), (1, rf Z 33), (2, .int a2)]) d_Wi_whoReachesWish_36 4 rfl (by rw [e_v36]; rfl) (by decide) rfl ?_
      refine V.goto (tgt := 10) d_Wi_whoReachesWish_39 (by decide) ?_
      exact V.pick [2, 3, 4, 1, 0] rfl (ih _ _ _ h hg)
def f_Wi_whoReachesWish (N : Nat) (σ : Mem) (a2 : Int32) : Option (Int32) :=
  grd (inb a2 16) <|
  letv (mI σ 58 (a2.toNatClampNeg)) fun v8 =>
  L_Wi_whoReachesWish_l10 N a2 σ N 0 v8
set_option maxHeartbeats 4000000 in
set_option maxRecDepth 20000 in
theorem c_Wi_whoReachesWish (Z : ZX) {N : Nat} {σ : Mem} {a2 : Int32} {r : Int32} (h : f_Wi_whoReachesWish N σ a2 = some r) : CI Z 2 m_Wi_whoReachesWish [rf Z 56, rf Z 33, .int a2] σ r σ := by
  refine Ct.of (by decide +kernel) (Nat.le_of_ble_eq_true rfl) (fun Y => ?_)
  show V (mkB Z) Y m_Wi_whoReachesWish 2 (QP (mkB Z) Y nC 0 0 (fun v t => v = some (.int r) ∧ t = σ)) 0 0 nC σ 0 [(0, rf Z 56), (1, rf Z 33), (2, .int a2)] []
  unfold f_Wi_whoReachesWish at h
  refine V.iconst (v := 0) d_Wi_whoReachesWish_0 (by decide) ?_
  refine V.istore_n (lv' := [(3, .int 0), (0, rf Z 56), (1, rf Z 33), (2, .int a2)]) d_Wi_whoReachesWish_1 rfl (by decide) rfl ?_
  refine V.aload_n d_Wi_whoReachesWish_2 rfl 1 rfl ?_
  refine V.getR (r := 58) ok_Wi fl_Wi_19 (by decide) (by decide) ly_56 rfl d_Wi_whoReachesWish_3 ?_
  refine V.iload_n d_Wi_whoReachesWish_6 rfl 3 rfl ?_
  obtain ⟨gq, h⟩ := grd_e h
  refine V.ra (by decide) ly_58 (inb_e gq) rfl d_Wi_whoReachesWish_7 ?_
  obtain ⟨v8, e_v8, h⟩ := letv_e h
  refine V.topI e_v8 ?_
  refine V.istore (lv' := [(4, .int v8), (3, .int 0), (0, rf Z 56), (1, rf Z 33), (2, .int a2)]) d_Wi_whoReachesWish_8 (by decide) rfl ?_
  refine V.pick [2, 3, 4, 1, 0] rfl (cL_Wi_whoReachesWish_l10 Z (Good := fun z => z = _) (fun r10v he => ?_) N _ _ _ h rfl)
  · cases he
    exact ⟨rfl, rfl⟩
abbrev m_Wi_inTheWayOfSun : MI := (⟨"ShadeTown$Wishes", "inTheWayOfSun", "(LShadeTown$Day;LShadeTown$Town;)I"⟩, prog_11_method_11_code, 6, (Option.some Jvm.ClassFile.FieldType.int))
theorem d_Wi_inTheWayOfSun_0 : decode prog_11_method_11_code 0 = .ok (.iconst 0, 1) := by decide +kernel
theorem d_Wi_inTheWayOfSun_1 : decode prog_11_method_11_code 1 = .ok (.istore_n 3, 1) := by decide +kernel
theorem d_Wi_inTheWayOfSun_2 : decode prog_11_method_11_code 2 = .ok (.iconst 0, 1) := by decide +kernel
theorem d_Wi_inTheWayOfSun_3 : decode prog_11_method_11_code 3 = .ok (.istore 4, 2) := by decide +kernel
theorem d_Wi_inTheWayOfSun_5 : decode prog_11_method_11_code 5 = .ok (.iload 4, 2) := by decide +kernel
theorem d_Wi_inTheWayOfSun_7 : decode prog_11_method_11_code 7 = .ok (.bipush 16, 2) := by decide +kernel
theorem d_Wi_inTheWayOfSun_79 : decode prog_11_method_11_code 79 = .ok (.iload_n 3, 1) := by decide +kernel
theorem d_Wi_inTheWayOfSun_80 : decode prog_11_method_11_code 80 = .ok (.ireturn, 1) := by decide +kernel
theorem d_Wi_inTheWayOfSun_12 : decode prog_11_method_11_code 12 = .ok (.iconst 0, 1) := by decide +kernel
theorem d_Wi_inTheWayOfSun_13 : decode prog_11_method_11_code 13 = .ok (.istore 5, 2) := by decide +kernel
theorem d_Wi_inTheWayOfSun_15 : decode prog_11_method_11_code 15 = .ok (.iload 5, 2) := by decide +kernel
theorem d_Wi_inTheWayOfSun_17 : decode prog_11_method_11_code 17 = .ok (.bipush 16, 2) := by decide +kernel
theorem d_Wi_inTheWayOfSun_22 : decode prog_11_method_11_code 22 = .ok (.aload_n 0, 1) := by decide +kernel
theorem d_Wi_inTheWayOfSun_23 : decode prog_11_method_11_code 23 = .ok (.iload 5, 2) := by decide +kernel
theorem d_Wi_inTheWayOfSun_25 : decode prog_11_method_11_code 25 = .ok (.invokevirtual 49, 3) := by decide +kernel
theorem d_Wi_inTheWayOfSun_31 : decode prog_11_method_11_code 31 = .ok (.aload_n 0, 1) := by decide +kernel
theorem d_Wi_inTheWayOfSun_32 : decode prog_11_method_11_code 32 = .ok (.getfield 25, 3) := by decide +kernel
theorem d_Wi_inTheWayOfSun_35 : decode prog_11_method_11_code 35 = .ok (.iload 5, 2) := by decide +kernel
theorem d_Wi_inTheWayOfSun_37 : decode prog_11_method_11_code 37 = .ok (.baload, 1) := by decide +kernel
theorem d_Wi_inTheWayOfSun_41 : decode prog_11_method_11_code 41 = .ok (.aload_n 0, 1) := by decide +kernel
theorem d_Wi_inTheWayOfSun_42 : decode prog_11_method_11_code 42 = .ok (.aload_n 2, 1) := by decide +kernel
theorem d_Wi_inTheWayOfSun_43 : decode prog_11_method_11_code 43 = .ok (.aload_n 0, 1) := by decide +kernel
theorem d_Wi_inTheWayOfSun_44 : decode prog_11_method_11_code 44 = .ok (.getfield 15, 3) := by decide +kernel
theorem d_Wi_inTheWayOfSun_47 : decode prog_11_method_11_code 47 = .ok (.iload 5, 2) := by decide +kernel
theorem d_Wi_inTheWayOfSun_49 : decode prog_11_method_11_code 49 = .ok (.iaload, 1) := by decide +kernel
theorem d_Wi_inTheWayOfSun_50 : decode prog_11_method_11_code 50 = .ok (.iload_n 3, 1) := by decide +kernel
theorem d_Wi_inTheWayOfSun_51 : decode prog_11_method_11_code 51 = .ok (.invokevirtual 80, 3) := by decide +kernel
theorem k_Wi_isHeldByHouse : MOk m_Wi_isHeldByHouse 3 ∧ IOk m_Wi_isHeldByHouse := ⟨⟨atG 1205 (by decide +kernel) rfl, atG 120 (by decide +kernel) rfl, ⟨by decide, by decide⟩, by decide +kernel, by decide⟩, atG 1204 (by decide +kernel) rfl, atG 36 (by decide +kernel) rfl⟩
theorem lk_Wi_80 : Cond.methodLink "ShadeTown$Wishes" 80 ⟨"ShadeTown$Wishes", "isHeldByHouse", "(LShadeTown$Town;II)Z"⟩ ∈ tblG := atG 1202 (by decide +kernel) rfl
theorem d_Wi_inTheWayOfSun_57 : decode prog_11_method_11_code 57 = .ok (.iload_n 3, 1) := by decide +kernel
theorem d_Wi_inTheWayOfSun_58 : decode prog_11_method_11_code 58 = .ok (.aload_n 0, 1) := by decide +kernel
theorem d_Wi_inTheWayOfSun_59 : decode prog_11_method_11_code 59 = .ok (.aload_n 1, 1) := by decide +kernel
theorem d_Wi_inTheWayOfSun_60 : decode prog_11_method_11_code 60 = .ok (.iload 5, 2) := by decide +kernel
theorem d_Wi_inTheWayOfSun_62 : decode prog_11_method_11_code 62 = .ok (.invokevirtual 84, 3) := by decide +kernel
theorem k_Wi_whoReachesWish : MOk m_Wi_whoReachesWish 2 ∧ IOk m_Wi_whoReachesWish := ⟨⟨atG 1210 (by decide +kernel) rfl, atG 120 (by decide +kernel) rfl, ⟨by decide, by decide⟩, by decide +kernel, by decide⟩, atG 1209 (by decide +kernel) rfl, atG 37 (by decide +kernel) rfl⟩
theorem lk_Wi_84 : Cond.methodLink "ShadeTown$Wishes" 84 ⟨"ShadeTown$Wishes", "whoReachesWish", "(LShadeTown$Day;I)I"⟩ ∈ tblG := atG 1207 (by decide +kernel) rfl
theorem d_Wi_inTheWayOfSun_65 : decode prog_11_method_11_code 65 = .ok (.ior, 1) := by decide +kernel
theorem d_Wi_inTheWayOfSun_66 : decode prog_11_method_11_code 66 = .ok (.istore_n 3, 1) := by decide +kernel
theorem d_Wi_inTheWayOfSun_54 : decode prog_11_method_11_code 54 = .ok (.ifCond .ne 13, 3) := by decide +kernel
theorem d_Wi_inTheWayOfSun_38 : decode prog_11_method_11_code 38 = .ok (.ifCond .eq 29, 3) := by decide +kernel
theorem d_Wi_inTheWayOfSun_28 : decode prog_11_method_11_code 28 = .ok (.ifCond .eq 39, 3) := by decide +kernel
theorem d_Wi_inTheWayOfSun_67 : decode prog_11_method_11_code 67 = .ok (.iinc 5 1, 3) := by decide +kernel
theorem d_Wi_inTheWayOfSun_70 : decode prog_11_method_11_code 70 = .ok (.goto (-55), 3) := by decide +kernel
theorem d_Wi_inTheWayOfSun_19 : decode prog_11_method_11_code 19 = .ok (.if_icmp .ge 54, 3) := by decide +kernel
theorem d_Wi_inTheWayOfSun_73 : decode prog_11_method_11_code 73 = .ok (.iinc 4 1, 3) := by decide +kernel
theorem d_Wi_inTheWayOfSun_76 : decode prog_11_method_11_code 76 = .ok (.goto (-71), 3) := by decide +kernel
theorem d_Wi_inTheWayOfSun_9 : decode prog_11_method_11_code 9 = .ok (.if_icmp .gt 70, 3) := by decide +kernel
def B_Wi_inTheWayOfSun_l15 (N : Nat) (a4 : Int32) (σ : Mem) (rec : Int32 → Int32 → Option (Int32)) (x3 : Int32) (x5 : Int32) : Option (Int32) :=
  if 16 ≤ x5 then
    (some x3)
  else
    (bnd1 (f_Wi_isTold σ x5) fun r25 =>
    bnd1 ((
      if r25 = 0 then
        (some x3)
      else
        (grd (inb x5 16) <|
        if (mI σ 60 (x5.toNatClampNeg)) = 0 then
          (some x3)
        else
          (grd (inb x5 16) <|
          bnd1 (f_Wi_isHeldByHouse N σ (mI σ 57 (x5.toNatClampNeg)) x3) fun r51 =>
          if r51 = 0 then
            (bnd1 (f_Wi_whoReachesWish N σ x5) fun r62 =>
            letv (x3 ||| r62) fun v66 =>
            some v66)
          else
            (some x3)))) : Option (Int32)) fun y28_3 =>
    letv (x5 + 1) fun v67 =>
    rec y28_3 v67)
def L_Wi_inTheWayOfSun_l15 (N : Nat) (a4 : Int32) (σ : Mem) : Nat → Int32 → Int32 → Option (Int32)
  | 0, _, _ => none
  | k + 1, x3, x5 => B_Wi_inTheWayOfSun_l15 N a4 σ (L_Wi_inTheWayOfSun_l15 N a4 σ k) x3 x5
set_option maxHeartbeats 4000000 in
set_option maxRecDepth 20000 in
theorem cL_Wi_inTheWayOfSun_l15 (Z : ZX) {Y : YX} {Q : State → Prop} {N : Nat} {a4 : Int32} {σ : Mem} {Good : Int32 → Prop} (hE : ∀ (o3 : Int32), Good o3 → V (mkB Z) Y m_Wi_inTheWayOfSun 5 Q 0 0 nC σ 73 [(0, rf Z 56), (1, rf Z 33), (2, rf Z 19), (3, .int o3), (4, .int a4)] []) : ∀ (k : Nat) (x3 : Int32) (x5 : Int32) (res : Int32), L_Wi_inTheWayOfSun_l15 N a4 σ k x3 x5 = some res → Good res → V (mkB Z) Y m_Wi_inTheWayOfSun 5 Q 0 0 nC σ 15 [(0, rf Z 56), (1, rf Z 33), (2, rf Z 19), (3, .int x3), (4, .int a4), (5, .int x5)] [] := by
  intro k
  induction k with
  | zero => intro x3 x5 res h; cases h
  | succ k ih =>
    intro x3 x5 res h hg
    replace h : B_Wi_inTheWayOfSun_l15 N a4 σ (L_Wi_inTheWayOfSun_l15 N a4 σ k) x3 x5 = some res := h
    unfold B_Wi_inTheWayOfSun_l15 at h
    refine V.iload d_Wi_inTheWayOfSun_15 5 rfl ?_
    refine V.bipush (v := 16) d_Wi_inTheWayOfSun_17 (by decide) ?_
    refine V.icmp_ge (tgt := 73) d_Wi_inTheWayOfSun_19 (by decide) (fun hc19 => ?_) (fun hc19 => ?_)
    · replace h := ite_t hc19 h
      cases h
      exact V.pick [0, 1, 2, 3, 4] rfl (hE _ hg)
    · replace h := ite_f hc19 h
      refine V.aload_n d_Wi_inTheWayOfSun_22 rfl 0 rfl ?_
      refine V.iload d_Wi_inTheWayOfSun_23 5 rfl ?_
      obtain ⟨r25, h1, h⟩ := bnd1_e h
      refine V.vI (as := [.int x5]) (st := []) (c_Wi_isTold Z h1) k_Wi_isTold lk_Wi_49 (by decide) rfl (by decide) ly_56 ok_Wi.1 rfl (Nat.le_of_ble_eq_true rfl) d_Wi_inTheWayOfSun_25 ?_
      obtain ⟨s28, h1, h⟩ := bnd1_e h
      have J28_67 : ∀ (y28_3 : Int32), s28 = y28_3 → V (mkB Z) Y m_Wi_inTheWayOfSun 5 Q 0 0 nC σ 67 [(0, rf Z 56), (1, rf Z 33), (2, rf Z 19), (3, .int y28_3), (4, .int a4), (5, .int x5)] [] := by
        intro y28_3 he
        rw [he] at h
        obtain ⟨v67, e_v67, h⟩ := letv_e h
        refine V.iinc (v := v67) (lv' := [(5, .int v67), (0, rf Z 56), (1, rf Z 33), (2, rf Z 19), (3, .int y28_3), (4, .int a4)]) d_Wi_inTheWayOfSun_67 5 rfl (by rw [e_v67]; rfl) (by decide) rfl ?_
        refine V.goto (tgt := 15) d_Wi_inTheWayOfSun_70 (by decide) ?_
        exact V.pick [1, 2, 3, 4, 5, 0] rfl (ih _ _ _ h hg)
      replace h := h1
      refine V.if_eq (tgt := 67) d_Wi_inTheWayOfSun_28 (by decide) (fun hc28 => ?_) (fun hc28 => ?_)
      · replace h := ite_t hc28 h
        exact V.pick [0, 1, 2, 3, 4, 5] rfl (J28_67 _ (Option.some.inj h).symm)
      · replace h := ite_f hc28 h
        refine V.aload_n d_Wi_inTheWayOfSun_31 rfl 0 rfl ?_
        refine V.getR (r := 60) ok_Wi fl_Wi_25 (by decide) (by decide) ly_56 rfl d_Wi_inTheWayOfSun_32 ?_
        refine V.iload d_Wi_inTheWayOfSun_35 5 rfl ?_
        obtain ⟨gq, h⟩ := grd_e h
        refine V.rz (by decide) ly_60 (inb_e gq) rfl d_Wi_inTheWayOfSun_37 ?_
        refine V.if_eq (tgt := 67) d_Wi_inTheWayOfSun_38 (by decide) (fun hc38 => ?_) (fun hc38 => ?_)
        · replace h := ite_t hc38 h
          exact V.pick [0, 1, 2, 3, 4, 5] rfl (J28_67 _ (Option.some.inj h).symm)
        · replace h := ite_f hc38 h
          refine V.aload_n d_Wi_inTheWayOfSun_41 rfl 0 rfl ?_
          refine V.aload_n d_Wi_inTheWayOfSun_42 rfl 2 rfl ?_
          refine V.aload_n d_Wi_inTheWayOfSun_43 rfl 0 rfl ?_
          refine V.getR (r := 57) ok_Wi fl_Wi_15 (by decide) (by decide) ly_56 rfl d_Wi_inTheWayOfSun_44 ?_
          refine V.iload d_Wi_inTheWayOfSun_47 5 rfl ?_
          obtain ⟨gq, h⟩ := grd_e h
          refine V.ra (by decide) ly_57 (inb_e gq) rfl d_Wi_inTheWayOfSun_49 ?_
          refine V.iload_n d_Wi_inTheWayOfSun_50 rfl 3 rfl ?_
          obtain ⟨r51, h1, h⟩ := bnd1_e h
          refine V.vI (as := [rf Z 19, .int (mI σ 57 (x5.toNatClampNeg)), .int x3]) (st := []) (c_Wi_isHeldByHouse Z h1) k_Wi_isHeldByHouse lk_Wi_80 (by decide) rfl (by decide) ly_56 ok_Wi.1 rfl (Nat.le_of_ble_eq_true rfl) d_Wi_inTheWayOfSun_51 ?_
          refine V.if_ne (tgt := 67) d_Wi_inTheWayOfSun_54 (by decide) (fun hc54 => ?_) (fun hc54 => ?_)
          · replace h := ite_f hc54 h
            exact V.pick [0, 1, 2, 3, 4, 5] rfl (J28_67 _ (Option.some.inj h).symm)
          · replace h := ite_t hc54 h
            refine V.iload_n d_Wi_inTheWayOfSun_57 rfl 3 rfl ?_
            refine V.aload_n d_Wi_inTheWayOfSun_58 rfl 0 rfl ?_
            refine V.aload_n d_Wi_inTheWayOfSun_59 rfl 1 rfl ?_
            refine V.iload d_Wi_inTheWayOfSun_60 5 rfl ?_
            obtain ⟨r62, h1, h⟩ := bnd1_e h
            refine V.vI (as := [rf Z 33, .int x5]) (st := [.int x3]) (c_Wi_whoReachesWish Z h1) k_Wi_whoReachesWish lk_Wi_84 (by decide) rfl (by decide) ly_56 ok_Wi.1 rfl (Nat.le_of_ble_eq_true rfl) d_Wi_inTheWayOfSun_62 ?_
            refine V.ior d_Wi_inTheWayOfSun_65 ?_
            obtain ⟨v66, e_v66, h⟩ := letv_e h
            refine V.topI e_v66 ?_
            refine V.istore_n (lv' := [(3, .int v66), (0, rf Z 56), (1, rf Z 33), (2, rf Z 19), (4, .int a4), (5, .int x5)]) d_Wi_inTheWayOfSun_66 rfl (by decide) rfl ?_
            exact V.pick [1, 2, 3, 0, 4, 5] rfl (J28_67 _ (Option.some.inj h).symm)
def B_Wi_inTheWayOfSun_l5 (N : Nat) (σ : Mem) (rec : Int32 → Int32 → Option (Int32)) (x3 : Int32) (x4 : Int32) : Option (Int32) :=
  if 16 < x4 then
    (some x3)
  else
    (bnd1 (L_Wi_inTheWayOfSun_l15 N x4 σ N x3 0) fun z15_3 =>
    letv (x4 + 1) fun v73 =>
    rec z15_3 v73)
def L_Wi_inTheWayOfSun_l5 (N : Nat) (σ : Mem) : Nat → Int32 → Int32 → Option (Int32)
  | 0, _, _ => none
  | k + 1, x3, x4 => B_Wi_inTheWayOfSun_l5 N σ (L_Wi_inTheWayOfSun_l5 N σ k) x3 x4
set_option maxHeartbeats 4000000 in
set_option maxRecDepth 20000 in
theorem cL_Wi_inTheWayOfSun_l5 (Z : ZX) {Y : YX} {post : Option Value → Mem → Prop} {N : Nat} {σ : Mem} {Good : Int32 → Prop} (hR : ∀ (v : Int32), Good v → post (some (.int v)) σ) : ∀ (k : Nat) (x3 : Int32) (x4 : Int32) (res : Int32), L_Wi_inTheWayOfSun_l5 N σ k x3 x4 = some res → Good res → V (mkB Z) Y m_Wi_inTheWayOfSun 5 (QP (mkB Z) Y nC 0 0 post) 0 0 nC σ 5 [(0, rf Z 56), (1, rf Z 33), (2, rf Z 19), (3, .int x3), (4, .int x4)] [] := by
  intro k
  induction k with
  | zero => intro x3 x4 res h; cases h
  | succ k ih =>
    intro x3 x4 res h hg
    replace h : B_Wi_inTheWayOfSun_l5 N σ (L_Wi_inTheWayOfSun_l5 N σ k) x3 x4 = some res := h
    unfold B_Wi_inTheWayOfSun_l5 at h
    refine V.iload d_Wi_inTheWayOfSun_5 4 rfl ?_
    refine V.bipush (v := 16) d_Wi_inTheWayOfSun_7 (by decide) ?_
    refine V.icmp_gt (tgt := 79) d_Wi_inTheWayOfSun_9 (by decide) (fun hc9 => ?_) (fun hc9 => ?_)
    · replace h := ite_t hc9 h
      refine V.iload_n d_Wi_inTheWayOfSun_79 rfl 3 rfl ?_
      cases h
      exact V.iret rfl d_Wi_inTheWayOfSun_80 (hR _ hg)
    · replace h := ite_f hc9 h
      refine V.iconst (v := 0) d_Wi_inTheWayOfSun_12 (by decide) ?_
      refine V.istore (lv' := [(5, .int 0), (0, rf Z 56), (1, rf Z 33), (2, rf Z 19), (3, .int x3), (4, .int x4)]) d_Wi_inTheWayOfSun_13 (by decide) rfl ?_
      obtain ⟨x15_, h1, h⟩ := bnd1_e h
      refine V.pick [1, 2, 3, 4, 5, 0] rfl (cL_Wi_inTheWayOfSun_l15 Z (Good := fun z => x15_ = z) (fun z15_3 he => ?_) N _ _ _ h1 rfl)
      · rw [he] at h
        obtain ⟨v73, e_v73, h⟩ := letv_e h
        refine V.iinc (v := v73) (lv' := [(4, .int v73), (0, rf Z 56), (1, rf Z 33), (2, rf Z 19), (3, .int z15_3)]) d_Wi_inTheWayOfSun_73 4 rfl (by rw [e_v73]; rfl) (by decide) rfl ?_
        refine V.goto (tgt := 5) d_Wi_inTheWayOfSun_76 (by decide) ?_
        exact V.pick [1, 2, 3, 4, 0] rfl (ih _ _ _ h hg)
def f_Wi_inTheWayOfSun (N : Nat) (σ : Mem) : Option (Int32) :=
  L_Wi_inTheWayOfSun_l5 N σ N 0 0
set_option maxHeartbeats 4000000 in
set_option maxRecDepth 20000 in
theorem c_Wi_inTheWayOfSun (Z : ZX) {N : Nat} {σ : Mem} {r : Int32} (h : f_Wi_inTheWayOfSun N σ = some r) : CI Z 5 m_Wi_inTheWayOfSun [rf Z 56, rf Z 33, rf Z 19] σ r σ := by
  refine Ct.of (by decide +kernel) (Nat.le_of_ble_eq_true rfl) (fun Y => ?_)
  show V (mkB Z) Y m_Wi_inTheWayOfSun 5 (QP (mkB Z) Y nC 0 0 (fun v t => v = some (.int r) ∧ t = σ)) 0 0 nC σ 0 [(0, rf Z 56), (1, rf Z 33), (2, rf Z 19)] []
  unfold f_Wi_inTheWayOfSun at h
  refine V.iconst (v := 0) d_Wi_inTheWayOfSun_0 (by decide) ?_
  refine V.istore_n (lv' := [(3, .int 0), (0, rf Z 56), (1, rf Z 33), (2, rf Z 19)]) d_Wi_inTheWayOfSun_1 rfl (by decide) rfl ?_
  refine V.iconst (v := 0) d_Wi_inTheWayOfSun_2 (by decide) ?_
  refine V.istore (lv' := [(4, .int 0), (3, .int 0), (0, rf Z 56), (1, rf Z 33), (2, rf Z 19)]) d_Wi_inTheWayOfSun_3 (by decide) rfl ?_
  refine V.pick [2, 3, 4, 1, 0] rfl (cL_Wi_inTheWayOfSun_l5 Z (Good := fun z => z = _) (fun r5v he => ?_) N _ _ _ h rfl)
  · cases he
    exact ⟨rfl, rfl⟩
abbrev m_Sh_takenDown : MI := (⟨"ShadeTown", "takenDown", "()I"⟩, prog_1_method_28_code, 1, (Option.some Jvm.ClassFile.FieldType.int))
theorem d_Sh_takenDown_0 : decode prog_1_method_28_code 0 = .ok (.aload_n 0, 1) := by decide +kernel
theorem d_Sh_takenDown_1 : decode prog_1_method_28_code 1 = .ok (.getfield 82, 3) := by decide +kernel
theorem d_Sh_takenDown_4 : decode prog_1_method_28_code 4 = .ok (.aload_n 0, 1) := by decide +kernel
theorem d_Sh_takenDown_5 : decode prog_1_method_28_code 5 = .ok (.invokevirtual 181, 3) := by decide +kernel
theorem d_Sh_takenDown_8 : decode prog_1_method_28_code 8 = .ok (.aload_n 0, 1) := by decide +kernel
theorem d_Sh_takenDown_9 : decode prog_1_method_28_code 9 = .ok (.getfield 38, 3) := by decide +kernel
theorem d_Sh_takenDown_12 : decode prog_1_method_28_code 12 = .ok (.invokevirtual 323, 3) := by decide +kernel
theorem k_Wi_inTheWayOfSun : MOk m_Wi_inTheWayOfSun 2 ∧ IOk m_Wi_inTheWayOfSun := ⟨⟨atG 1201 (by decide +kernel) rfl, atG 120 (by decide +kernel) rfl, ⟨by decide, by decide⟩, by decide +kernel, by decide⟩, atG 1199 (by decide +kernel) rfl, atG 1200 (by decide +kernel) rfl⟩
theorem lk_Sh_323 : Cond.methodLink "ShadeTown" 323 ⟨"ShadeTown$Wishes", "inTheWayOfSun", "(LShadeTown$Day;LShadeTown$Town;)I"⟩ ∈ tblG := atG 1198 (by decide +kernel) rfl
theorem d_Sh_takenDown_15 : decode prog_1_method_28_code 15 = .ok (.ireturn, 1) := by decide +kernel
def f_Sh_takenDown (N : Nat) (σ : Mem) : Option (Int32 × Mem) :=
  bnd1 (f_Sh_today N σ) fun σ5 =>
  bnd1 (f_Wi_inTheWayOfSun N σ5) fun r12 =>
  some (r12, σ5)
set_option maxHeartbeats 4000000 in
set_option maxRecDepth 20000 in
theorem c_Sh_takenDown (Z : ZX) {N : Nat} {σ : Mem} {r : Int32} {σ' : Mem} (h : f_Sh_takenDown N σ = some (r, σ')) : CI Z 6 m_Sh_takenDown [rf Z 0] σ r σ' := by
  refine Ct.of (by decide +kernel) (Nat.le_of_ble_eq_true rfl) (fun Y => ?_)
  show V (mkB Z) Y m_Sh_takenDown 6 (QP (mkB Z) Y nC 0 0 (fun v t => v = some (.int r) ∧ t = σ')) 0 0 nC σ 0 [(0, rf Z 0)] []
  unfold f_Sh_takenDown at h
  refine V.aload_n d_Sh_takenDown_0 rfl 0 rfl ?_
  refine V.getR (r := 56) ok_Sh fl_Sh_82 (by decide) (by decide) ly_0 rfl d_Sh_takenDown_1 ?_
  refine V.aload_n d_Sh_takenDown_4 rfl 0 rfl ?_
  obtain ⟨σ5, h1, h⟩ := bnd1_e h
  refine V.vA (as := []) (st := [rf Z 56]) (c_Sh_today Z h1) k_Sh_today lk_Sh_181 (by decide) rfl (by decide) ly_0 ok_Sh.1 rfl (Nat.le_of_ble_eq_true rfl) d_Sh_takenDown_5 ?_
  refine V.aload_n d_Sh_takenDown_8 rfl 0 rfl ?_
  refine V.getR (r := 19) ok_Sh fl_Sh_38 (by decide) (by decide) ly_0 rfl d_Sh_takenDown_9 ?_
  obtain ⟨r12, h1, h⟩ := bnd1_e h
  refine V.vI (as := [rf Z 33, rf Z 19]) (st := []) (c_Wi_inTheWayOfSun Z h1) k_Wi_inTheWayOfSun lk_Sh_323 (by decide) rfl (by decide) ly_56 ok_Wi.1 rfl (Nat.le_of_ble_eq_true rfl) d_Sh_takenDown_12 ?_
  cases h
  exact V.iret rfl d_Sh_takenDown_15 ⟨rfl, rfl⟩
abbrev m_Da_shadedSquares : MI := (⟨"ShadeTown$Day", "shadedSquares", "(I)I"⟩, prog_3_method_13_code, 4, (Option.some Jvm.ClassFile.FieldType.int))
theorem d_Da_shadedSquares_0 : decode prog_3_method_13_code 0 = .ok (.iconst 0, 1) := by decide +kernel
theorem d_Da_shadedSquares_1 : decode prog_3_method_13_code 1 = .ok (.istore_n 2, 1) := by decide +kernel
theorem d_Da_shadedSquares_2 : decode prog_3_method_13_code 2 = .ok (.iconst 0, 1) := by decide +kernel
theorem d_Da_shadedSquares_3 : decode prog_3_method_13_code 3 = .ok (.istore_n 3, 1) := by decide +kernel
theorem d_Da_shadedSquares_4 : decode prog_3_method_13_code 4 = .ok (.iload_n 3, 1) := by decide +kernel
theorem d_Da_shadedSquares_5 : decode prog_3_method_13_code 5 = .ok (.sipush 144, 3) := by decide +kernel
theorem d_Da_shadedSquares_34 : decode prog_3_method_13_code 34 = .ok (.iload_n 2, 1) := by decide +kernel
theorem d_Da_shadedSquares_35 : decode prog_3_method_13_code 35 = .ok (.ireturn, 1) := by decide +kernel
theorem d_Da_shadedSquares_11 : decode prog_3_method_13_code 11 = .ok (.iload_n 2, 1) := by decide +kernel
theorem d_Da_shadedSquares_12 : decode prog_3_method_13_code 12 = .ok (.aload_n 0, 1) := by decide +kernel
theorem d_Da_shadedSquares_13 : decode prog_3_method_13_code 13 = .ok (.iload_n 1, 1) := by decide +kernel
theorem d_Da_shadedSquares_14 : decode prog_3_method_13_code 14 = .ok (.iload_n 3, 1) := by decide +kernel
theorem d_Da_shadedSquares_15 : decode prog_3_method_13_code 15 = .ok (.invokevirtual 62, 3) := by decide +kernel
theorem d_Da_shadedSquares_25 : decode prog_3_method_13_code 25 = .ok (.iconst 0, 1) := by decide +kernel
theorem d_Da_shadedSquares_21 : decode prog_3_method_13_code 21 = .ok (.iconst 1, 1) := by decide +kernel
theorem d_Da_shadedSquares_22 : decode prog_3_method_13_code 22 = .ok (.goto 4, 3) := by decide +kernel
theorem d_Da_shadedSquares_18 : decode prog_3_method_13_code 18 = .ok (.ifCond .eq 7, 3) := by decide +kernel
theorem d_Da_shadedSquares_26 : decode prog_3_method_13_code 26 = .ok (.iadd, 1) := by decide +kernel
theorem d_Da_shadedSquares_27 : decode prog_3_method_13_code 27 = .ok (.istore_n 2, 1) := by decide +kernel
theorem d_Da_shadedSquares_28 : decode prog_3_method_13_code 28 = .ok (.iinc 3 1, 3) := by decide +kernel
theorem d_Da_shadedSquares_31 : decode prog_3_method_13_code 31 = .ok (.goto (-27), 3) := by decide +kernel
theorem d_Da_shadedSquares_8 : decode prog_3_method_13_code 8 = .ok (.if_icmp .ge 26, 3) := by decide +kernel
def B_Da_shadedSquares_l4 (N : Nat) (a1 : Int32) (σ : Mem) (rec : Int32 → Int32 → Option (Int32)) (x2 : Int32) (x3 : Int32) : Option (Int32) :=
  if 144 ≤ x3 then
    (some x2)
  else
    (bnd1 (f_Da_whoCasts σ a1 x3) fun r15 =>
    bnd1 ((
      if r15 = 0 then
        (some 0)
      else
        (some 1)) : Option (Int32)) fun y18_s1 =>
    letv (x2 + y18_s1) fun v27 =>
    letv (x3 + 1) fun v28 =>
    rec v27 v28)
def L_Da_shadedSquares_l4 (N : Nat) (a1 : Int32) (σ : Mem) : Nat → Int32 → Int32 → Option (Int32)
  | 0, _, _ => none
  | k + 1, x2, x3 => B_Da_shadedSquares_l4 N a1 σ (L_Da_shadedSquares_l4 N a1 σ k) x2 x3
set_option maxHeartbeats 4000000 in
set_option maxRecDepth 20000 in
theorem cL_Da_shadedSquares_l4 (Z : ZX) {Y : YX} {post : Option Value → Mem → Prop} {N : Nat} {a1 : Int32} {σ : Mem} {Good : Int32 → Prop} (hR : ∀ (v : Int32), Good v → post (some (.int v)) σ) : ∀ (k : Nat) (x2 : Int32) (x3 : Int32) (res : Int32), L_Da_shadedSquares_l4 N a1 σ k x2 x3 = some res → Good res → V (mkB Z) Y m_Da_shadedSquares 2 (QP (mkB Z) Y nC 0 0 post) 0 0 nC σ 4 [(0, rf Z 33), (1, .int a1), (2, .int x2), (3, .int x3)] [] := by
  intro k
  induction k with
  | zero => intro x2 x3 res h; cases h
  | succ k ih =>
    intro x2 x3 res h hg
    replace h : B_Da_shadedSquares_l4 N a1 σ (L_Da_shadedSquares_l4 N a1 σ k) x2 x3 = some res := h
    unfold B_Da_shadedSquares_l4 at h
    refine V.iload_n d_Da_shadedSquares_4 rfl 3 rfl ?_
    refine V.sipush (v := 144) d_Da_shadedSquares_5 (by decide) ?_
    refine V.icmp_ge (tgt := 34) d_Da_shadedSquares_8 (by decide) (fun hc8 => ?_) (fun hc8 => ?_)
    · replace h := ite_t hc8 h
      refine V.iload_n d_Da_shadedSquares_34 rfl 2 rfl ?_
      cases h
      exact V.iret rfl d_Da_shadedSquares_35 (hR _ hg)
    · replace h := ite_f hc8 h
      refine V.iload_n d_Da_shadedSquares_11 rfl 2 rfl ?_
      refine V.aload_n d_Da_shadedSquares_12 rfl 0 rfl ?_
      refine V.iload_n d_Da_shadedSquares_13 rfl 1 rfl ?_
      refine V.iload_n d_Da_shadedSquares_14 rfl 3 rfl ?_
      obtain ⟨r15, h1, h⟩ := bnd1_e h
      refine V.vI (as := [.int a1, .int x3]) (st := [.int x2]) (c_Da_whoCasts Z h1) k_Da_whoCasts lk_Da_62 (by decide) rfl (by decide) ly_33 ok_Da.1 rfl (Nat.le_of_ble_eq_true rfl) d_Da_shadedSquares_15 ?_
      obtain ⟨s18, h1, h⟩ := bnd1_e h
      have J18_26 : ∀ (y18_s1 : Int32), s18 = y18_s1 → V (mkB Z) Y m_Da_shadedSquares 2 (QP (mkB Z) Y nC 0 0 post) 0 0 nC σ 26 [(0, rf Z 33), (1, .int a1), (3, .int x3)] [.int y18_s1, .int x2] := by
        intro y18_s1 he
        rw [he] at h
        refine V.iadd d_Da_shadedSquares_26 ?_
        obtain ⟨v27, e_v27, h⟩ := letv_e h
        refine V.topI e_v27 ?_
        refine V.istore_n (lv' := [(2, .int v27), (0, rf Z 33), (1, .int a1), (3, .int x3)]) d_Da_shadedSquares_27 rfl (by decide) rfl ?_
        obtain ⟨v28, e_v28, h⟩ := letv_e h
        refine V.iinc (v := v28) (lv' := [(3, .int v28), (2, .int v27), (0, rf Z 33), (1, .int a1)]) d_Da_shadedSquares_28 3 rfl (by rw [e_v28]; rfl) (by decide) rfl ?_
        refine V.goto (tgt := 4) d_Da_shadedSquares_31 (by decide) ?_
        exact V.pick [2, 3, 1, 0] rfl (ih _ _ _ h hg)
      replace h := h1
      refine V.if_eq (tgt := 25) d_Da_shadedSquares_18 (by decide) (fun hc18 => ?_) (fun hc18 => ?_)
      · replace h := ite_t hc18 h
        refine V.iconst (v := 0) d_Da_shadedSquares_25 (by decide) ?_
        exact V.pick [0, 1, 3] rfl (J18_26 _ (Option.some.inj h).symm)
      · replace h := ite_f hc18 h
        refine V.iconst (v := 1) d_Da_shadedSquares_21 (by decide) ?_
        refine V.goto (tgt := 26) d_Da_shadedSquares_22 (by decide) ?_
        exact V.pick [0, 1, 3] rfl (J18_26 _ (Option.some.inj h).symm)
def f_Da_shadedSquares (N : Nat) (σ : Mem) (a1 : Int32) : Option (Int32) :=
  L_Da_shadedSquares_l4 N a1 σ N 0 0
set_option maxHeartbeats 4000000 in
set_option maxRecDepth 20000 in
theorem c_Da_shadedSquares (Z : ZX) {N : Nat} {σ : Mem} {a1 : Int32} {r : Int32} (h : f_Da_shadedSquares N σ a1 = some r) : CI Z 2 m_Da_shadedSquares [rf Z 33, .int a1] σ r σ := by
  refine Ct.of (by decide +kernel) (Nat.le_of_ble_eq_true rfl) (fun Y => ?_)
  show V (mkB Z) Y m_Da_shadedSquares 2 (QP (mkB Z) Y nC 0 0 (fun v t => v = some (.int r) ∧ t = σ)) 0 0 nC σ 0 [(0, rf Z 33), (1, .int a1)] []
  unfold f_Da_shadedSquares at h
  refine V.iconst (v := 0) d_Da_shadedSquares_0 (by decide) ?_
  refine V.istore_n (lv' := [(2, .int 0), (0, rf Z 33), (1, .int a1)]) d_Da_shadedSquares_1 rfl (by decide) rfl ?_
  refine V.iconst (v := 0) d_Da_shadedSquares_2 (by decide) ?_
  refine V.istore_n (lv' := [(3, .int 0), (2, .int 0), (0, rf Z 33), (1, .int a1)]) d_Da_shadedSquares_3 rfl (by decide) rfl ?_
  refine V.pick [2, 3, 1, 0] rfl (cL_Da_shadedSquares_l4 Z (Good := fun z => z = _) (fun r4v he => ?_) N _ _ _ h rfl)
  · cases he
    exact ⟨rfl, rfl⟩
