abbrev m_To_copyFrom : MI := (⟨"ShadeTown$Town", "copyFrom", "(LShadeTown$Town;)V"⟩, prog_9_method_2_code, 2, (Option.none : Option Jvm.ClassFile.FieldType))
theorem d_To_copyFrom_0 : decode prog_9_method_2_code 0 = .ok (.aload_n 1, 1) := by decide +kernel
theorem d_To_copyFrom_1 : decode prog_9_method_2_code 1 = .ok (.getfield 11, 3) := by decide +kernel
theorem d_To_copyFrom_4 : decode prog_9_method_2_code 4 = .ok (.iconst 0, 1) := by decide +kernel
theorem d_To_copyFrom_5 : decode prog_9_method_2_code 5 = .ok (.aload_n 0, 1) := by decide +kernel
theorem d_To_copyFrom_6 : decode prog_9_method_2_code 6 = .ok (.getfield 11, 3) := by decide +kernel
theorem d_To_copyFrom_9 : decode prog_9_method_2_code 9 = .ok (.iconst 0, 1) := by decide +kernel
theorem d_To_copyFrom_10 : decode prog_9_method_2_code 10 = .ok (.bipush 16, 2) := by decide +kernel
theorem d_To_copyFrom_12 : decode prog_9_method_2_code 12 = .ok (.invokestatic 43, 3) := by decide +kernel
theorem lk_To_43 : Cond.methodLink "ShadeTown$Town" 43 ⟨"java/lang/System", "arraycopy", "(Ljava/lang/Object;ILjava/lang/Object;II)V"⟩ ∈ tblG := atG 1293 (by decide +kernel) rfl
theorem d_To_copyFrom_15 : decode prog_9_method_2_code 15 = .ok (.aload_n 1, 1) := by decide +kernel
theorem d_To_copyFrom_16 : decode prog_9_method_2_code 16 = .ok (.getfield 15, 3) := by decide +kernel
theorem d_To_copyFrom_19 : decode prog_9_method_2_code 19 = .ok (.iconst 0, 1) := by decide +kernel
theorem d_To_copyFrom_20 : decode prog_9_method_2_code 20 = .ok (.aload_n 0, 1) := by decide +kernel
theorem d_To_copyFrom_21 : decode prog_9_method_2_code 21 = .ok (.getfield 15, 3) := by decide +kernel
theorem d_To_copyFrom_24 : decode prog_9_method_2_code 24 = .ok (.iconst 0, 1) := by decide +kernel
theorem d_To_copyFrom_25 : decode prog_9_method_2_code 25 = .ok (.bipush 16, 2) := by decide +kernel
theorem d_To_copyFrom_27 : decode prog_9_method_2_code 27 = .ok (.invokestatic 43, 3) := by decide +kernel
theorem d_To_copyFrom_30 : decode prog_9_method_2_code 30 = .ok (.aload_n 1, 1) := by decide +kernel
theorem d_To_copyFrom_31 : decode prog_9_method_2_code 31 = .ok (.getfield 18, 3) := by decide +kernel
theorem d_To_copyFrom_34 : decode prog_9_method_2_code 34 = .ok (.iconst 0, 1) := by decide +kernel
theorem d_To_copyFrom_35 : decode prog_9_method_2_code 35 = .ok (.aload_n 0, 1) := by decide +kernel
theorem d_To_copyFrom_36 : decode prog_9_method_2_code 36 = .ok (.getfield 18, 3) := by decide +kernel
theorem d_To_copyFrom_39 : decode prog_9_method_2_code 39 = .ok (.iconst 0, 1) := by decide +kernel
theorem d_To_copyFrom_40 : decode prog_9_method_2_code 40 = .ok (.bipush 16, 2) := by decide +kernel
theorem d_To_copyFrom_42 : decode prog_9_method_2_code 42 = .ok (.invokestatic 43, 3) := by decide +kernel
theorem d_To_copyFrom_45 : decode prog_9_method_2_code 45 = .ok (.aload_n 1, 1) := by decide +kernel
theorem d_To_copyFrom_46 : decode prog_9_method_2_code 46 = .ok (.getfield 21, 3) := by decide +kernel
theorem d_To_copyFrom_49 : decode prog_9_method_2_code 49 = .ok (.iconst 0, 1) := by decide +kernel
theorem d_To_copyFrom_50 : decode prog_9_method_2_code 50 = .ok (.aload_n 0, 1) := by decide +kernel
theorem d_To_copyFrom_51 : decode prog_9_method_2_code 51 = .ok (.getfield 21, 3) := by decide +kernel
theorem d_To_copyFrom_54 : decode prog_9_method_2_code 54 = .ok (.iconst 0, 1) := by decide +kernel
theorem d_To_copyFrom_55 : decode prog_9_method_2_code 55 = .ok (.bipush 16, 2) := by decide +kernel
theorem d_To_copyFrom_57 : decode prog_9_method_2_code 57 = .ok (.invokestatic 43, 3) := by decide +kernel
theorem d_To_copyFrom_60 : decode prog_9_method_2_code 60 = .ok (.aload_n 1, 1) := by decide +kernel
theorem d_To_copyFrom_61 : decode prog_9_method_2_code 61 = .ok (.getfield 24, 3) := by decide +kernel
theorem d_To_copyFrom_64 : decode prog_9_method_2_code 64 = .ok (.iconst 0, 1) := by decide +kernel
theorem d_To_copyFrom_65 : decode prog_9_method_2_code 65 = .ok (.aload_n 0, 1) := by decide +kernel
theorem d_To_copyFrom_66 : decode prog_9_method_2_code 66 = .ok (.getfield 24, 3) := by decide +kernel
theorem d_To_copyFrom_69 : decode prog_9_method_2_code 69 = .ok (.iconst 0, 1) := by decide +kernel
theorem d_To_copyFrom_70 : decode prog_9_method_2_code 70 = .ok (.bipush 16, 2) := by decide +kernel
theorem d_To_copyFrom_72 : decode prog_9_method_2_code 72 = .ok (.invokestatic 43, 3) := by decide +kernel
theorem d_To_copyFrom_75 : decode prog_9_method_2_code 75 = .ok (.aload_n 1, 1) := by decide +kernel
theorem fl_To_27 : FL "ShadeTown$Town" 27 T_To 5 := atG 231 (by decide +kernel) rfl
theorem d_To_copyFrom_76 : decode prog_9_method_2_code 76 = .ok (.getfield 27, 3) := by decide +kernel
theorem d_To_copyFrom_79 : decode prog_9_method_2_code 79 = .ok (.iconst 0, 1) := by decide +kernel
theorem d_To_copyFrom_80 : decode prog_9_method_2_code 80 = .ok (.aload_n 0, 1) := by decide +kernel
theorem d_To_copyFrom_81 : decode prog_9_method_2_code 81 = .ok (.getfield 27, 3) := by decide +kernel
theorem d_To_copyFrom_84 : decode prog_9_method_2_code 84 = .ok (.iconst 0, 1) := by decide +kernel
theorem d_To_copyFrom_85 : decode prog_9_method_2_code 85 = .ok (.bipush 6, 2) := by decide +kernel
theorem d_To_copyFrom_87 : decode prog_9_method_2_code 87 = .ok (.invokestatic 43, 3) := by decide +kernel
theorem d_To_copyFrom_90 : decode prog_9_method_2_code 90 = .ok (.aload_n 0, 1) := by decide +kernel
theorem d_To_copyFrom_91 : decode prog_9_method_2_code 91 = .ok (.aload_n 1, 1) := by decide +kernel
theorem d_To_copyFrom_92 : decode prog_9_method_2_code 92 = .ok (.getfield 30, 3) := by decide +kernel
theorem d_To_copyFrom_95 : decode prog_9_method_2_code 95 = .ok (.putfield 30, 3) := by decide +kernel
theorem d_To_copyFrom_98 : decode prog_9_method_2_code 98 = .ok (.aload_n 0, 1) := by decide +kernel
theorem d_To_copyFrom_99 : decode prog_9_method_2_code 99 = .ok (.aload_n 1, 1) := by decide +kernel
theorem d_To_copyFrom_100 : decode prog_9_method_2_code 100 = .ok (.getfield 34, 3) := by decide +kernel
theorem d_To_copyFrom_103 : decode prog_9_method_2_code 103 = .ok (.putfield 34, 3) := by decide +kernel
theorem d_To_copyFrom_106 : decode prog_9_method_2_code 106 = .ok (.aload_n 0, 1) := by decide +kernel
theorem d_To_copyFrom_107 : decode prog_9_method_2_code 107 = .ok (.aload_n 1, 1) := by decide +kernel
theorem fl_To_37 : FL "ShadeTown$Town" 37 T_To 8 := atG 239 (by decide +kernel) rfl
theorem d_To_copyFrom_108 : decode prog_9_method_2_code 108 = .ok (.getfield 37, 3) := by decide +kernel
theorem d_To_copyFrom_111 : decode prog_9_method_2_code 111 = .ok (.putfield 37, 3) := by decide +kernel
theorem d_To_copyFrom_114 : decode prog_9_method_2_code 114 = .ok (.aload_n 0, 1) := by decide +kernel
theorem d_To_copyFrom_115 : decode prog_9_method_2_code 115 = .ok (.aload_n 1, 1) := by decide +kernel
theorem fl_To_40 : FL "ShadeTown$Town" 40 T_To 9 := atG 242 (by decide +kernel) rfl
theorem d_To_copyFrom_116 : decode prog_9_method_2_code 116 = .ok (.getfield 40, 3) := by decide +kernel
theorem d_To_copyFrom_119 : decode prog_9_method_2_code 119 = .ok (.putfield 40, 3) := by decide +kernel
theorem d_To_copyFrom_122 : decode prog_9_method_2_code 122 = .ok (.return_, 1) := by decide +kernel
def f_To_copyFrom_b (σ : Mem) : Option (Mem) :=
  letv (cpI σ 20 27 0 0 16) fun σ12 =>
  letv (cpI σ12 21 28 0 0 16) fun σ27 =>
  letv (cpI σ27 22 29 0 0 16) fun σ42 =>
  letv (cpI σ42 23 30 0 0 16) fun σ57 =>
  letv (cpI σ57 24 31 0 0 16) fun σ72 =>
  letv (cpI σ72 25 32 0 0 6) fun σ87 =>
  letv (sI σ87 26 6 (mI σ87 19 6)) fun σ95 =>
  letv (sI σ95 26 7 (mI σ95 19 7)) fun σ103 =>
  letv (sI σ103 26 8 (mI σ103 19 8)) fun σ111 =>
  letv (sI σ111 26 9 (mI σ111 19 9)) fun σ119 =>
  some σ119
set_option maxHeartbeats 4000000 in
set_option maxRecDepth 20000 in
theorem c_To_copyFrom_b (Z : ZX) {σ : Mem} {σ' : Mem} (h : f_To_copyFrom_b σ = some σ') : CN Z 1 m_To_copyFrom [rf Z 26, rf Z 19] σ σ' := by
  refine Ct.of (by decide +kernel) (Nat.le_of_ble_eq_true rfl) (fun Y => ?_)
  show V (mkB Z) Y m_To_copyFrom 1 (QP (mkB Z) Y nC 0 0 (fun v t => v = none ∧ t = σ')) 0 0 nC σ 0 [(0, rf Z 26), (1, rf Z 19)] []
  unfold f_To_copyFrom_b at h
  refine V.aload_n d_To_copyFrom_0 rfl 1 rfl ?_
  refine V.getR (r := 20) ok_To fl_To_11 (by decide) (by decide) ly_19 rfl d_To_copyFrom_1 ?_
  refine V.iconst (v := 0) d_To_copyFrom_4 (by decide) ?_
  refine V.aload_n d_To_copyFrom_5 rfl 0 rfl ?_
  refine V.getR (r := 27) ok_To fl_To_11 (by decide) (by decide) ly_26 rfl d_To_copyFrom_6 ?_
  refine V.iconst (v := 0) d_To_copyFrom_9 (by decide) ?_
  refine V.bipush (v := 16) d_To_copyFrom_10 (by decide) ?_
  obtain ⟨σ12, e_σ12, h⟩ := letv_e h
  refine V.acopy (st := []) (by decide) (by decide) ly_20 ly_27 (by decide) (by decide) (by decide) (by decide) (by decide) lk_To_43 (Nat.le_of_ble_eq_true rfl) (by decide) d_To_copyFrom_12 (V.mem e_σ12 ?_)
  refine V.aload_n d_To_copyFrom_15 rfl 1 rfl ?_
  refine V.getR (r := 21) ok_To fl_To_15 (by decide) (by decide) ly_19 rfl d_To_copyFrom_16 ?_
  refine V.iconst (v := 0) d_To_copyFrom_19 (by decide) ?_
  refine V.aload_n d_To_copyFrom_20 rfl 0 rfl ?_
  refine V.getR (r := 28) ok_To fl_To_15 (by decide) (by decide) ly_26 rfl d_To_copyFrom_21 ?_
  refine V.iconst (v := 0) d_To_copyFrom_24 (by decide) ?_
  refine V.bipush (v := 16) d_To_copyFrom_25 (by decide) ?_
  obtain ⟨σ27, e_σ27, h⟩ := letv_e h
  refine V.acopy (st := []) (by decide) (by decide) ly_21 ly_28 (by decide) (by decide) (by decide) (by decide) (by decide) lk_To_43 (Nat.le_of_ble_eq_true rfl) (by decide) d_To_copyFrom_27 (V.mem e_σ27 ?_)
  refine V.aload_n d_To_copyFrom_30 rfl 1 rfl ?_
  refine V.getR (r := 22) ok_To fl_To_18 (by decide) (by decide) ly_19 rfl d_To_copyFrom_31 ?_
  refine V.iconst (v := 0) d_To_copyFrom_34 (by decide) ?_
  refine V.aload_n d_To_copyFrom_35 rfl 0 rfl ?_
  refine V.getR (r := 29) ok_To fl_To_18 (by decide) (by decide) ly_26 rfl d_To_copyFrom_36 ?_
  refine V.iconst (v := 0) d_To_copyFrom_39 (by decide) ?_
  refine V.bipush (v := 16) d_To_copyFrom_40 (by decide) ?_
  obtain ⟨σ42, e_σ42, h⟩ := letv_e h
  refine V.acopy (st := []) (by decide) (by decide) ly_22 ly_29 (by decide) (by decide) (by decide) (by decide) (by decide) lk_To_43 (Nat.le_of_ble_eq_true rfl) (by decide) d_To_copyFrom_42 (V.mem e_σ42 ?_)
  refine V.aload_n d_To_copyFrom_45 rfl 1 rfl ?_
  refine V.getR (r := 23) ok_To fl_To_21 (by decide) (by decide) ly_19 rfl d_To_copyFrom_46 ?_
  refine V.iconst (v := 0) d_To_copyFrom_49 (by decide) ?_
  refine V.aload_n d_To_copyFrom_50 rfl 0 rfl ?_
  refine V.getR (r := 30) ok_To fl_To_21 (by decide) (by decide) ly_26 rfl d_To_copyFrom_51 ?_
  refine V.iconst (v := 0) d_To_copyFrom_54 (by decide) ?_
  refine V.bipush (v := 16) d_To_copyFrom_55 (by decide) ?_
  obtain ⟨σ57, e_σ57, h⟩ := letv_e h
  refine V.acopy (st := []) (by decide) (by decide) ly_23 ly_30 (by decide) (by decide) (by decide) (by decide) (by decide) lk_To_43 (Nat.le_of_ble_eq_true rfl) (by decide) d_To_copyFrom_57 (V.mem e_σ57 ?_)
  refine V.aload_n d_To_copyFrom_60 rfl 1 rfl ?_
  refine V.getR (r := 24) ok_To fl_To_24 (by decide) (by decide) ly_19 rfl d_To_copyFrom_61 ?_
  refine V.iconst (v := 0) d_To_copyFrom_64 (by decide) ?_
  refine V.aload_n d_To_copyFrom_65 rfl 0 rfl ?_
  refine V.getR (r := 31) ok_To fl_To_24 (by decide) (by decide) ly_26 rfl d_To_copyFrom_66 ?_
  refine V.iconst (v := 0) d_To_copyFrom_69 (by decide) ?_
  refine V.bipush (v := 16) d_To_copyFrom_70 (by decide) ?_
  obtain ⟨σ72, e_σ72, h⟩ := letv_e h
  refine V.acopy (st := []) (by decide) (by decide) ly_24 ly_31 (by decide) (by decide) (by decide) (by decide) (by decide) lk_To_43 (Nat.le_of_ble_eq_true rfl) (by decide) d_To_copyFrom_72 (V.mem e_σ72 ?_)
  refine V.aload_n d_To_copyFrom_75 rfl 1 rfl ?_
  refine V.getR (r := 25) ok_To fl_To_27 (by decide) (by decide) ly_19 rfl d_To_copyFrom_76 ?_
  refine V.iconst (v := 0) d_To_copyFrom_79 (by decide) ?_
  refine V.aload_n d_To_copyFrom_80 rfl 0 rfl ?_
  refine V.getR (r := 32) ok_To fl_To_27 (by decide) (by decide) ly_26 rfl d_To_copyFrom_81 ?_
  refine V.iconst (v := 0) d_To_copyFrom_84 (by decide) ?_
  refine V.bipush (v := 6) d_To_copyFrom_85 (by decide) ?_
  obtain ⟨σ87, e_σ87, h⟩ := letv_e h
  refine V.acopy (st := []) (by decide) (by decide) ly_25 ly_32 (by decide) (by decide) (by decide) (by decide) (by decide) lk_To_43 (Nat.le_of_ble_eq_true rfl) (by decide) d_To_copyFrom_87 (V.mem e_σ87 ?_)
  refine V.aload_n d_To_copyFrom_90 rfl 0 rfl ?_
  refine V.aload_n d_To_copyFrom_91 rfl 1 rfl ?_
  refine V.getI ok_To fl_To_30 (by decide) (by decide) ly_19 rfl d_To_copyFrom_92 ?_
  obtain ⟨σ95, e_σ95, h⟩ := letv_e h
  refine V.putI ok_To fl_To_30 (by decide) (by decide) ly_26 rfl rfl rfl rfl d_To_copyFrom_95 (V.mem e_σ95 ?_)
  refine V.aload_n d_To_copyFrom_98 rfl 0 rfl ?_
  refine V.aload_n d_To_copyFrom_99 rfl 1 rfl ?_
  refine V.getI ok_To fl_To_34 (by decide) (by decide) ly_19 rfl d_To_copyFrom_100 ?_
  obtain ⟨σ103, e_σ103, h⟩ := letv_e h
  refine V.putI ok_To fl_To_34 (by decide) (by decide) ly_26 rfl rfl rfl rfl d_To_copyFrom_103 (V.mem e_σ103 ?_)
  refine V.aload_n d_To_copyFrom_106 rfl 0 rfl ?_
  refine V.aload_n d_To_copyFrom_107 rfl 1 rfl ?_
  refine V.getI ok_To fl_To_37 (by decide) (by decide) ly_19 rfl d_To_copyFrom_108 ?_
  obtain ⟨σ111, e_σ111, h⟩ := letv_e h
  refine V.putI ok_To fl_To_37 (by decide) (by decide) ly_26 rfl rfl rfl rfl d_To_copyFrom_111 (V.mem e_σ111 ?_)
  refine V.aload_n d_To_copyFrom_114 rfl 0 rfl ?_
  refine V.aload_n d_To_copyFrom_115 rfl 1 rfl ?_
  refine V.getI ok_To fl_To_40 (by decide) (by decide) ly_19 rfl d_To_copyFrom_116 ?_
  obtain ⟨σ119, e_σ119, h⟩ := letv_e h
  refine V.putI ok_To fl_To_40 (by decide) (by decide) ly_26 rfl rfl rfl rfl d_To_copyFrom_119 (V.mem e_σ119 ?_)
  cases h
  exact V.vret rfl d_To_copyFrom_122 ⟨rfl, rfl⟩
abbrev m_Sh_keep : MI := (⟨"ShadeTown", "keep", "()I"⟩, prog_1_method_35_code, 1, (Option.some Jvm.ClassFile.FieldType.int))
theorem d_Sh_keep_0 : decode prog_1_method_35_code 0 = .ok (.aload_n 0, 1) := by decide +kernel
theorem fl_Sh_42 : FL "ShadeTown" 42 T_Sh 5 := atG 424 (by decide +kernel) rfl
theorem d_Sh_keep_1 : decode prog_1_method_35_code 1 = .ok (.getfield 42, 3) := by decide +kernel
theorem d_Sh_keep_4 : decode prog_1_method_35_code 4 = .ok (.aload_n 0, 1) := by decide +kernel
theorem d_Sh_keep_5 : decode prog_1_method_35_code 5 = .ok (.getfield 38, 3) := by decide +kernel
theorem d_Sh_keep_8 : decode prog_1_method_35_code 8 = .ok (.invokevirtual 349, 3) := by decide +kernel
theorem k_To_copyFrom : MOk m_To_copyFrom 1 ∧ IOk m_To_copyFrom := ⟨⟨atG 1292 (by decide +kernel) rfl, atG 115 (by decide +kernel) rfl, ⟨by decide, by decide⟩, by decide +kernel, by decide⟩, atG 1290 (by decide +kernel) rfl, atG 1291 (by decide +kernel) rfl⟩
theorem lk_Sh_349 : Cond.methodLink "ShadeTown" 349 ⟨"ShadeTown$Town", "copyFrom", "(LShadeTown$Town;)V"⟩ ∈ tblG := atG 1289 (by decide +kernel) rfl
theorem d_Sh_keep_11 : decode prog_1_method_35_code 11 = .ok (.aload_n 0, 1) := by decide +kernel
theorem d_Sh_keep_12 : decode prog_1_method_35_code 12 = .ok (.iconst 1, 1) := by decide +kernel
theorem fl_Sh_45 : FL "ShadeTown" 45 T_Sh 6 := atG 425 (by decide +kernel) rfl
theorem d_Sh_keep_13 : decode prog_1_method_35_code 13 = .ok (.putfield 45, 3) := by decide +kernel
theorem d_Sh_keep_16 : decode prog_1_method_35_code 16 = .ok (.aload_n 0, 1) := by decide +kernel
theorem d_Sh_keep_17 : decode prog_1_method_35_code 17 = .ok (.getfield 38, 3) := by decide +kernel
theorem fl_Sh_352 : FL "ShadeTown" 352 T_To 7 := atG 238 (by decide +kernel) rfl
theorem d_Sh_keep_20 : decode prog_1_method_35_code 20 = .ok (.getfield 352, 3) := by decide +kernel
theorem d_Sh_keep_23 : decode prog_1_method_35_code 23 = .ok (.invokestatic 355, 3) := by decide +kernel
theorem lk_Sh_355 : Cond.methodLink "ShadeTown" 355 ⟨"java/lang/Integer", "bitCount", "(I)I"⟩ ∈ tblG := atG 1294 (by decide +kernel) rfl
theorem d_Sh_keep_26 : decode prog_1_method_35_code 26 = .ok (.ireturn, 1) := by decide +kernel
def f_Sh_keep (σ : Mem) : Option (Int32 × Mem) :=
  bnd1 (f_To_copyFrom_b σ) fun σ8 =>
  letv (sI σ8 0 6 1) fun σ13 =>
  bnd1 (f_JI_bitCount_0f7a4 (mI σ13 19 7)) fun r23 =>
  some (r23, σ13)
set_option maxHeartbeats 4000000 in
set_option maxRecDepth 20000 in
theorem c_Sh_keep (Z : ZX) {σ : Mem} {r : Int32} {σ' : Mem} (h : f_Sh_keep σ = some (r, σ')) : CI Z 2 m_Sh_keep [rf Z 0] σ r σ' := by
  refine Ct.of (by decide +kernel) (Nat.le_of_ble_eq_true rfl) (fun Y => ?_)
  show V (mkB Z) Y m_Sh_keep 2 (QP (mkB Z) Y nC 0 0 (fun v t => v = some (.int r) ∧ t = σ')) 0 0 nC σ 0 [(0, rf Z 0)] []
  unfold f_Sh_keep at h
  refine V.aload_n d_Sh_keep_0 rfl 0 rfl ?_
  refine V.getR (r := 26) ok_Sh fl_Sh_42 (by decide) (by decide) ly_0 rfl d_Sh_keep_1 ?_
  refine V.aload_n d_Sh_keep_4 rfl 0 rfl ?_
  refine V.getR (r := 19) ok_Sh fl_Sh_38 (by decide) (by decide) ly_0 rfl d_Sh_keep_5 ?_
  obtain ⟨σ8, h1, h⟩ := bnd1_e h
  refine V.vN (as := [rf Z 19]) (st := []) (c_To_copyFrom_b Z h1) k_To_copyFrom lk_Sh_349 (by decide) rfl (by decide) ly_26 ok_To.1 rfl (Nat.le_of_ble_eq_true rfl) d_Sh_keep_8 ?_
  refine V.aload_n d_Sh_keep_11 rfl 0 rfl ?_
  refine V.iconst (v := 1) d_Sh_keep_12 (by decide) ?_
  obtain ⟨σ13, e_σ13, h⟩ := letv_e h
  refine V.putI ok_Sh fl_Sh_45 (by decide) (by decide) ly_0 rfl rfl rfl rfl d_Sh_keep_13 (V.mem e_σ13 ?_)
  refine V.aload_n d_Sh_keep_16 rfl 0 rfl ?_
  refine V.getR (r := 19) ok_Sh fl_Sh_38 (by decide) (by decide) ly_0 rfl d_Sh_keep_17 ?_
  refine V.getI ok_To fl_Sh_352 (by decide) (by decide) ly_19 rfl d_Sh_keep_20 ?_
  obtain ⟨r23, h1, h⟩ := bnd1_e h
  refine V.sI (as := [.int (mI σ13 19 7)]) (st := []) (c_JI_bitCount_0f7a4 Z h1) k_JI_bitCount_0f7a4 lk_Sh_355 (by decide) rfl rfl (Nat.le_of_ble_eq_true rfl) d_Sh_keep_23 ?_
  cases h
  exact V.iret rfl d_Sh_keep_26 ⟨rfl, rfl⟩
def f_To_copyFrom (σ : Mem) : Option (Mem) :=
  letv (cpI σ 27 20 0 0 16) fun σ12 =>
  letv (cpI σ12 28 21 0 0 16) fun σ27 =>
  letv (cpI σ27 29 22 0 0 16) fun σ42 =>
  letv (cpI σ42 30 23 0 0 16) fun σ57 =>
  letv (cpI σ57 31 24 0 0 16) fun σ72 =>
  letv (cpI σ72 32 25 0 0 6) fun σ87 =>
  letv (sI σ87 19 6 (mI σ87 26 6)) fun σ95 =>
  letv (sI σ95 19 7 (mI σ95 26 7)) fun σ103 =>
  letv (sI σ103 19 8 (mI σ103 26 8)) fun σ111 =>
  letv (sI σ111 19 9 (mI σ111 26 9)) fun σ119 =>
  some σ119
set_option maxHeartbeats 4000000 in
set_option maxRecDepth 20000 in
theorem c_To_copyFrom (Z : ZX) {σ : Mem} {σ' : Mem} (h : f_To_copyFrom σ = some σ') : CN Z 1 m_To_copyFrom [rf Z 19, rf Z 26] σ σ' := by
  refine Ct.of (by decide +kernel) (Nat.le_of_ble_eq_true rfl) (fun Y => ?_)
  show V (mkB Z) Y m_To_copyFrom 1 (QP (mkB Z) Y nC 0 0 (fun v t => v = none ∧ t = σ')) 0 0 nC σ 0 [(0, rf Z 19), (1, rf Z 26)] []
  unfold f_To_copyFrom at h
  refine V.aload_n d_To_copyFrom_0 rfl 1 rfl ?_
  refine V.getR (r := 27) ok_To fl_To_11 (by decide) (by decide) ly_26 rfl d_To_copyFrom_1 ?_
  refine V.iconst (v := 0) d_To_copyFrom_4 (by decide) ?_
  refine V.aload_n d_To_copyFrom_5 rfl 0 rfl ?_
  refine V.getR (r := 20) ok_To fl_To_11 (by decide) (by decide) ly_19 rfl d_To_copyFrom_6 ?_
  refine V.iconst (v := 0) d_To_copyFrom_9 (by decide) ?_
  refine V.bipush (v := 16) d_To_copyFrom_10 (by decide) ?_
  obtain ⟨σ12, e_σ12, h⟩ := letv_e h
  refine V.acopy (st := []) (by decide) (by decide) ly_27 ly_20 (by decide) (by decide) (by decide) (by decide) (by decide) lk_To_43 (Nat.le_of_ble_eq_true rfl) (by decide) d_To_copyFrom_12 (V.mem e_σ12 ?_)
  refine V.aload_n d_To_copyFrom_15 rfl 1 rfl ?_
  refine V.getR (r := 28) ok_To fl_To_15 (by decide) (by decide) ly_26 rfl d_To_copyFrom_16 ?_
  refine V.iconst (v := 0) d_To_copyFrom_19 (by decide) ?_
  refine V.aload_n d_To_copyFrom_20 rfl 0 rfl ?_
  refine V.getR (r := 21) ok_To fl_To_15 (by decide) (by decide) ly_19 rfl d_To_copyFrom_21 ?_
  refine V.iconst (v := 0) d_To_copyFrom_24 (by decide) ?_
  refine V.bipush (v := 16) d_To_copyFrom_25 (by decide) ?_
  obtain ⟨σ27, e_σ27, h⟩ := letv_e h
  refine V.acopy (st := []) (by decide) (by decide) ly_28 ly_21 (by decide) (by decide) (by decide) (by decide) (by decide) lk_To_43 (Nat.le_of_ble_eq_true rfl) (by decide) d_To_copyFrom_27 (V.mem e_σ27 ?_)
  refine V.aload_n d_To_copyFrom_30 rfl 1 rfl ?_
  refine V.getR (r := 29) ok_To fl_To_18 (by decide) (by decide) ly_26 rfl d_To_copyFrom_31 ?_
  refine V.iconst (v := 0) d_To_copyFrom_34 (by decide) ?_
  refine V.aload_n d_To_copyFrom_35 rfl 0 rfl ?_
  refine V.getR (r := 22) ok_To fl_To_18 (by decide) (by decide) ly_19 rfl d_To_copyFrom_36 ?_
  refine V.iconst (v := 0) d_To_copyFrom_39 (by decide) ?_
  refine V.bipush (v := 16) d_To_copyFrom_40 (by decide) ?_
  obtain ⟨σ42, e_σ42, h⟩ := letv_e h
  refine V.acopy (st := []) (by decide) (by decide) ly_29 ly_22 (by decide) (by decide) (by decide) (by decide) (by decide) lk_To_43 (Nat.le_of_ble_eq_true rfl) (by decide) d_To_copyFrom_42 (V.mem e_σ42 ?_)
  refine V.aload_n d_To_copyFrom_45 rfl 1 rfl ?_
  refine V.getR (r := 30) ok_To fl_To_21 (by decide) (by decide) ly_26 rfl d_To_copyFrom_46 ?_
  refine V.iconst (v := 0) d_To_copyFrom_49 (by decide) ?_
  refine V.aload_n d_To_copyFrom_50 rfl 0 rfl ?_
  refine V.getR (r := 23) ok_To fl_To_21 (by decide) (by decide) ly_19 rfl d_To_copyFrom_51 ?_
  refine V.iconst (v := 0) d_To_copyFrom_54 (by decide) ?_
  refine V.bipush (v := 16) d_To_copyFrom_55 (by decide) ?_
  obtain ⟨σ57, e_σ57, h⟩ := letv_e h
  refine V.acopy (st := []) (by decide) (by decide) ly_30 ly_23 (by decide) (by decide) (by decide) (by decide) (by decide) lk_To_43 (Nat.le_of_ble_eq_true rfl) (by decide) d_To_copyFrom_57 (V.mem e_σ57 ?_)
  refine V.aload_n d_To_copyFrom_60 rfl 1 rfl ?_
  refine V.getR (r := 31) ok_To fl_To_24 (by decide) (by decide) ly_26 rfl d_To_copyFrom_61 ?_
  refine V.iconst (v := 0) d_To_copyFrom_64 (by decide) ?_
  refine V.aload_n d_To_copyFrom_65 rfl 0 rfl ?_
  refine V.getR (r := 24) ok_To fl_To_24 (by decide) (by decide) ly_19 rfl d_To_copyFrom_66 ?_
  refine V.iconst (v := 0) d_To_copyFrom_69 (by decide) ?_
  refine V.bipush (v := 16) d_To_copyFrom_70 (by decide) ?_
  obtain ⟨σ72, e_σ72, h⟩ := letv_e h
  refine V.acopy (st := []) (by decide) (by decide) ly_31 ly_24 (by decide) (by decide) (by decide) (by decide) (by decide) lk_To_43 (Nat.le_of_ble_eq_true rfl) (by decide) d_To_copyFrom_72 (V.mem e_σ72 ?_)
  refine V.aload_n d_To_copyFrom_75 rfl 1 rfl ?_
  refine V.getR (r := 32) ok_To fl_To_27 (by decide) (by decide) ly_26 rfl d_To_copyFrom_76 ?_
  refine V.iconst (v := 0) d_To_copyFrom_79 (by decide) ?_
  refine V.aload_n d_To_copyFrom_80 rfl 0 rfl ?_
  refine V.getR (r := 25) ok_To fl_To_27 (by decide) (by decide) ly_19 rfl d_To_copyFrom_81 ?_
  refine V.iconst (v := 0) d_To_copyFrom_84 (by decide) ?_
  refine V.bipush (v := 6) d_To_copyFrom_85 (by decide) ?_
  obtain ⟨σ87, e_σ87, h⟩ := letv_e h
  refine V.acopy (st := []) (by decide) (by decide) ly_32 ly_25 (by decide) (by decide) (by decide) (by decide) (by decide) lk_To_43 (Nat.le_of_ble_eq_true rfl) (by decide) d_To_copyFrom_87 (V.mem e_σ87 ?_)
  refine V.aload_n d_To_copyFrom_90 rfl 0 rfl ?_
  refine V.aload_n d_To_copyFrom_91 rfl 1 rfl ?_
  refine V.getI ok_To fl_To_30 (by decide) (by decide) ly_26 rfl d_To_copyFrom_92 ?_
  obtain ⟨σ95, e_σ95, h⟩ := letv_e h
  refine V.putI ok_To fl_To_30 (by decide) (by decide) ly_19 rfl rfl rfl rfl d_To_copyFrom_95 (V.mem e_σ95 ?_)
  refine V.aload_n d_To_copyFrom_98 rfl 0 rfl ?_
  refine V.aload_n d_To_copyFrom_99 rfl 1 rfl ?_
  refine V.getI ok_To fl_To_34 (by decide) (by decide) ly_26 rfl d_To_copyFrom_100 ?_
  obtain ⟨σ103, e_σ103, h⟩ := letv_e h
  refine V.putI ok_To fl_To_34 (by decide) (by decide) ly_19 rfl rfl rfl rfl d_To_copyFrom_103 (V.mem e_σ103 ?_)
  refine V.aload_n d_To_copyFrom_106 rfl 0 rfl ?_
  refine V.aload_n d_To_copyFrom_107 rfl 1 rfl ?_
  refine V.getI ok_To fl_To_37 (by decide) (by decide) ly_26 rfl d_To_copyFrom_108 ?_
  obtain ⟨σ111, e_σ111, h⟩ := letv_e h
  refine V.putI ok_To fl_To_37 (by decide) (by decide) ly_19 rfl rfl rfl rfl d_To_copyFrom_111 (V.mem e_σ111 ?_)
  refine V.aload_n d_To_copyFrom_114 rfl 0 rfl ?_
  refine V.aload_n d_To_copyFrom_115 rfl 1 rfl ?_
  refine V.getI ok_To fl_To_40 (by decide) (by decide) ly_26 rfl d_To_copyFrom_116 ?_
  obtain ⟨σ119, e_σ119, h⟩ := letv_e h
  refine V.putI ok_To fl_To_40 (by decide) (by decide) ly_19 rfl rfl rfl rfl d_To_copyFrom_119 (V.mem e_σ119 ?_)
  cases h
  exact V.vret rfl d_To_copyFrom_122 ⟨rfl, rfl⟩
abbrev m_Sh_undo : MI := (⟨"ShadeTown", "undo", "()Z"⟩, prog_1_method_36_code, 1, (Option.some Jvm.ClassFile.FieldType.boolean))
theorem d_Sh_undo_0 : decode prog_1_method_36_code 0 = .ok (.aload_n 0, 1) := by decide +kernel
theorem d_Sh_undo_1 : decode prog_1_method_36_code 1 = .ok (.getfield 45, 3) := by decide +kernel
theorem d_Sh_undo_9 : decode prog_1_method_36_code 9 = .ok (.aload_n 0, 1) := by decide +kernel
theorem d_Sh_undo_10 : decode prog_1_method_36_code 10 = .ok (.getfield 38, 3) := by decide +kernel
theorem d_Sh_undo_13 : decode prog_1_method_36_code 13 = .ok (.aload_n 0, 1) := by decide +kernel
theorem d_Sh_undo_14 : decode prog_1_method_36_code 14 = .ok (.getfield 42, 3) := by decide +kernel
theorem d_Sh_undo_17 : decode prog_1_method_36_code 17 = .ok (.invokevirtual 349, 3) := by decide +kernel
theorem d_Sh_undo_20 : decode prog_1_method_36_code 20 = .ok (.aload_n 0, 1) := by decide +kernel
theorem d_Sh_undo_21 : decode prog_1_method_36_code 21 = .ok (.getfield 54, 3) := by decide +kernel
theorem d_Sh_undo_24 : decode prog_1_method_36_code 24 = .ok (.invokevirtual 116, 3) := by decide +kernel
theorem d_Sh_undo_27 : decode prog_1_method_36_code 27 = .ok (.iconst 1, 1) := by decide +kernel
theorem d_Sh_undo_28 : decode prog_1_method_36_code 28 = .ok (.ireturn, 1) := by decide +kernel
theorem d_Sh_undo_7 : decode prog_1_method_36_code 7 = .ok (.iconst 0, 1) := by decide +kernel
theorem d_Sh_undo_8 : decode prog_1_method_36_code 8 = .ok (.ireturn, 1) := by decide +kernel
theorem d_Sh_undo_4 : decode prog_1_method_36_code 4 = .ok (.ifCond .ne 5, 3) := by decide +kernel
def f_Sh_undo (σ : Mem) : Option (Int32 × Mem) :=
  if (mI σ 0 6) = 0 then
    (some (0, σ))
  else
    (bnd1 (f_To_copyFrom σ) fun σ17 =>
    bnd1 (f_Da_forgetSky σ17) fun σ24 =>
    some (1, σ24))
set_option maxHeartbeats 4000000 in
set_option maxRecDepth 20000 in
theorem c_Sh_undo (Z : ZX) {σ : Mem} {r : Int32} {σ' : Mem} (h : f_Sh_undo σ = some (r, σ')) : CI Z 2 m_Sh_undo [rf Z 0] σ r σ' := by
  refine Ct.of (by decide +kernel) (Nat.le_of_ble_eq_true rfl) (fun Y => ?_)
  show V (mkB Z) Y m_Sh_undo 2 (QP (mkB Z) Y nC 0 0 (fun v t => v = some (.int r) ∧ t = σ')) 0 0 nC σ 0 [(0, rf Z 0)] []
  unfold f_Sh_undo at h
  refine V.aload_n d_Sh_undo_0 rfl 0 rfl ?_
  refine V.getI ok_Sh fl_Sh_45 (by decide) (by decide) ly_0 rfl d_Sh_undo_1 ?_
  refine V.if_ne (tgt := 9) d_Sh_undo_4 (by decide) (fun hc4 => ?_) (fun hc4 => ?_)
  · replace h := ite_f hc4 h
    refine V.aload_n d_Sh_undo_9 rfl 0 rfl ?_
    refine V.getR (r := 19) ok_Sh fl_Sh_38 (by decide) (by decide) ly_0 rfl d_Sh_undo_10 ?_
    refine V.aload_n d_Sh_undo_13 rfl 0 rfl ?_
    refine V.getR (r := 26) ok_Sh fl_Sh_42 (by decide) (by decide) ly_0 rfl d_Sh_undo_14 ?_
    obtain ⟨σ17, h1, h⟩ := bnd1_e h
    refine V.vN (as := [rf Z 26]) (st := []) (c_To_copyFrom Z h1) k_To_copyFrom lk_Sh_349 (by decide) rfl (by decide) ly_19 ok_To.1 rfl (Nat.le_of_ble_eq_true rfl) d_Sh_undo_17 ?_
    refine V.aload_n d_Sh_undo_20 rfl 0 rfl ?_
    refine V.getR (r := 33) ok_Sh fl_Sh_54 (by decide) (by decide) ly_0 rfl d_Sh_undo_21 ?_
    obtain ⟨σ24, h1, h⟩ := bnd1_e h
    refine V.vN (as := []) (st := []) (c_Da_forgetSky Z h1) k_Da_forgetSky lk_Sh_116 (by decide) rfl (by decide) ly_33 ok_Da.1 rfl (Nat.le_of_ble_eq_true rfl) d_Sh_undo_24 ?_
    refine V.iconst (v := 1) d_Sh_undo_27 (by decide) ?_
    cases h
    exact V.zret rfl rfl d_Sh_undo_28 ⟨rfl, rfl⟩
  · replace h := ite_t hc4 h
    refine V.iconst (v := 0) d_Sh_undo_7 (by decide) ?_
    cases h
    exact V.zret rfl rfl d_Sh_undo_8 ⟨rfl, rfl⟩
abbrev m_Ta_intAt : MI := (⟨"ShadeTown$Tape", "intAt", "(I)I"⟩, prog_8_method_6_code, 4, (Option.some Jvm.ClassFile.FieldType.int))
theorem d_Ta_intAt_0 : decode prog_8_method_6_code 0 = .ok (.iconst 0, 1) := by decide +kernel
theorem d_Ta_intAt_1 : decode prog_8_method_6_code 1 = .ok (.istore_n 2, 1) := by decide +kernel
theorem d_Ta_intAt_2 : decode prog_8_method_6_code 2 = .ok (.iconst 0, 1) := by decide +kernel
theorem d_Ta_intAt_3 : decode prog_8_method_6_code 3 = .ok (.istore_n 3, 1) := by decide +kernel
theorem d_Ta_intAt_4 : decode prog_8_method_6_code 4 = .ok (.iload_n 3, 1) := by decide +kernel
theorem d_Ta_intAt_5 : decode prog_8_method_6_code 5 = .ok (.iconst 4, 1) := by decide +kernel
theorem d_Ta_intAt_34 : decode prog_8_method_6_code 34 = .ok (.iload_n 2, 1) := by decide +kernel
theorem d_Ta_intAt_35 : decode prog_8_method_6_code 35 = .ok (.ireturn, 1) := by decide +kernel
theorem d_Ta_intAt_9 : decode prog_8_method_6_code 9 = .ok (.iload_n 2, 1) := by decide +kernel
theorem d_Ta_intAt_10 : decode prog_8_method_6_code 10 = .ok (.bipush 8, 2) := by decide +kernel
theorem d_Ta_intAt_12 : decode prog_8_method_6_code 12 = .ok (.ishl, 1) := by decide +kernel
theorem d_Ta_intAt_13 : decode prog_8_method_6_code 13 = .ok (.aload_n 0, 1) := by decide +kernel
theorem d_Ta_intAt_14 : decode prog_8_method_6_code 14 = .ok (.iconst 4, 1) := by decide +kernel
theorem d_Ta_intAt_15 : decode prog_8_method_6_code 15 = .ok (.iload_n 1, 1) := by decide +kernel
theorem d_Ta_intAt_16 : decode prog_8_method_6_code 16 = .ok (.imul, 1) := by decide +kernel
theorem d_Ta_intAt_17 : decode prog_8_method_6_code 17 = .ok (.iload_n 3, 1) := by decide +kernel
theorem d_Ta_intAt_18 : decode prog_8_method_6_code 18 = .ok (.iadd, 1) := by decide +kernel
theorem d_Ta_intAt_19 : decode prog_8_method_6_code 19 = .ok (.invokevirtual 19, 3) := by decide +kernel
theorem lk_Ta_19 : Cond.methodLink "ShadeTown$Tape" 19 ⟨"ShadeTown$Tape", "byteAt", "(I)I"⟩ ∈ tblG := atG 1307 (by decide +kernel) rfl
theorem d_Ta_intAt_22 : decode prog_8_method_6_code 22 = .ok (.sipush 255, 3) := by decide +kernel
theorem d_Ta_intAt_25 : decode prog_8_method_6_code 25 = .ok (.iand, 1) := by decide +kernel
theorem d_Ta_intAt_26 : decode prog_8_method_6_code 26 = .ok (.ior, 1) := by decide +kernel
theorem d_Ta_intAt_27 : decode prog_8_method_6_code 27 = .ok (.istore_n 2, 1) := by decide +kernel
theorem d_Ta_intAt_28 : decode prog_8_method_6_code 28 = .ok (.iinc 3 1, 3) := by decide +kernel
theorem d_Ta_intAt_31 : decode prog_8_method_6_code 31 = .ok (.goto (-27), 3) := by decide +kernel
theorem d_Ta_intAt_6 : decode prog_8_method_6_code 6 = .ok (.if_icmp .ge 28, 3) := by decide +kernel
def B_Ta_intAt_l4 (N : Nat) (a1 : Int32) (σ : Mem) (rec : Int32 → Int32 → Option (Int32)) (x2 : Int32) (x3 : Int32) : Option (Int32) :=
  if 4 ≤ x3 then
    (some x2)
  else
    (bnd1 (f_Ta_byteAt σ ((4 * a1) + x3)) fun r19 =>
    letv ((x2 <<< (8 &&& 31)) ||| (r19 &&& 255)) fun v27 =>
    letv (x3 + 1) fun v28 =>
    rec v27 v28)
def L_Ta_intAt_l4 (N : Nat) (a1 : Int32) (σ : Mem) : Nat → Int32 → Int32 → Option (Int32)
  | 0, _, _ => none
  | k + 1, x2, x3 => B_Ta_intAt_l4 N a1 σ (L_Ta_intAt_l4 N a1 σ k) x2 x3
set_option maxHeartbeats 4000000 in
set_option maxRecDepth 20000 in
theorem cL_Ta_intAt_l4 (Z : ZX) {Y : YX} {post : Option Value → Mem → Prop} {N : Nat} {a1 : Int32} {σ : Mem} {Good : Int32 → Prop} (hR : ∀ (v : Int32), Good v → post (some (.int v)) σ) : ∀ (k : Nat) (x2 : Int32) (x3 : Int32) (res : Int32), L_Ta_intAt_l4 N a1 σ k x2 x3 = some res → Good res → V (mkB Z) Y m_Ta_intAt 1 (QP (mkB Z) Y nC 0 0 post) 0 0 nC σ 4 [(0, rf Z 1), (1, .int a1), (2, .int x2), (3, .int x3)] [] := by
  intro k
  induction k with
  | zero => intro x2 x3 res h; cases h
  | succ k ih =>
    intro x2 x3 res h hg
    replace h : B_Ta_intAt_l4 N a1 σ (L_Ta_intAt_l4 N a1 σ k) x2 x3 = some res := h
    unfold B_Ta_intAt_l4 at h
    refine V.iload_n d_Ta_intAt_4 rfl 3 rfl ?_
    refine V.iconst (v := 4) d_Ta_intAt_5 (by decide) ?_
    refine V.icmp_ge (tgt := 34) d_Ta_intAt_6 (by decide) (fun hc6 => ?_) (fun hc6 => ?_)
    · replace h := ite_t hc6 h
      refine V.iload_n d_Ta_intAt_34 rfl 2 rfl ?_
      cases h
      exact V.iret rfl d_Ta_intAt_35 (hR _ hg)
    · replace h := ite_f hc6 h
      refine V.iload_n d_Ta_intAt_9 rfl 2 rfl ?_
      refine V.bipush (v := 8) d_Ta_intAt_10 (by decide) ?_
      refine V.ishl d_Ta_intAt_12 ?_
      refine V.aload_n d_Ta_intAt_13 rfl 0 rfl ?_
      refine V.iconst (v := 4) d_Ta_intAt_14 (by decide) ?_
      refine V.iload_n d_Ta_intAt_15 rfl 1 rfl ?_
      refine V.imul d_Ta_intAt_16 ?_
      refine V.iload_n d_Ta_intAt_17 rfl 3 rfl ?_
      refine V.iadd d_Ta_intAt_18 ?_
      obtain ⟨r19, h1, h⟩ := bnd1_e h
      refine V.vI (as := [.int ((4 * a1) + x3)]) (st := [.int (x2 <<< (8 &&& 31))]) (c_Ta_byteAt Z h1) k_Ta_byteAt lk_Ta_19 (by decide) rfl (by decide) ly_1 ok_Ta.1 rfl (Nat.le_of_ble_eq_true rfl) d_Ta_intAt_19 ?_
      refine V.sipush (v := 255) d_Ta_intAt_22 (by decide) ?_
      refine V.iand d_Ta_intAt_25 ?_
      refine V.ior d_Ta_intAt_26 ?_
      obtain ⟨v27, e_v27, h⟩ := letv_e h
      refine V.topI e_v27 ?_
      refine V.istore_n (lv' := [(2, .int v27), (0, rf Z 1), (1, .int a1), (3, .int x3)]) d_Ta_intAt_27 rfl (by decide) rfl ?_
      obtain ⟨v28, e_v28, h⟩ := letv_e h
      refine V.iinc (v := v28) (lv' := [(3, .int v28), (2, .int v27), (0, rf Z 1), (1, .int a1)]) d_Ta_intAt_28 3 rfl (by rw [e_v28]; rfl) (by decide) rfl ?_
      refine V.goto (tgt := 4) d_Ta_intAt_31 (by decide) ?_
      exact V.pick [2, 3, 1, 0] rfl (ih _ _ _ h hg)
def f_Ta_intAt (N : Nat) (σ : Mem) (a1 : Int32) : Option (Int32) :=
  L_Ta_intAt_l4 N a1 σ N 0 0
set_option maxHeartbeats 4000000 in
set_option maxRecDepth 20000 in
theorem c_Ta_intAt (Z : ZX) {N : Nat} {σ : Mem} {a1 : Int32} {r : Int32} (h : f_Ta_intAt N σ a1 = some r) : CI Z 1 m_Ta_intAt [rf Z 1, .int a1] σ r σ := by
  refine Ct.of (by decide +kernel) (Nat.le_of_ble_eq_true rfl) (fun Y => ?_)
  show V (mkB Z) Y m_Ta_intAt 1 (QP (mkB Z) Y nC 0 0 (fun v t => v = some (.int r) ∧ t = σ)) 0 0 nC σ 0 [(0, rf Z 1), (1, .int a1)] []
  unfold f_Ta_intAt at h
  refine V.iconst (v := 0) d_Ta_intAt_0 (by decide) ?_
  refine V.istore_n (lv' := [(2, .int 0), (0, rf Z 1), (1, .int a1)]) d_Ta_intAt_1 rfl (by decide) rfl ?_
  refine V.iconst (v := 0) d_Ta_intAt_2 (by decide) ?_
  refine V.istore_n (lv' := [(3, .int 0), (2, .int 0), (0, rf Z 1), (1, .int a1)]) d_Ta_intAt_3 rfl (by decide) rfl ?_
  refine V.pick [2, 3, 1, 0] rfl (cL_Ta_intAt_l4 Z (Good := fun z => z = _) (fun r4v he => ?_) N _ _ _ h rfl)
  · cases he
    exact ⟨rfl, rfl⟩
abbrev m_Sh_check : MI := (⟨"ShadeTown", "check", "(III)I"⟩, prog_1_method_37_code, 7, (Option.some Jvm.ClassFile.FieldType.int))
theorem d_Sh_check_0 : decode prog_1_method_37_code 0 = .ok (.iload_n 1, 1) := by decide +kernel
theorem d_Sh_check_1 : decode prog_1_method_37_code 1 = .ok (.invokestatic 178, 3) := by decide +kernel
theorem d_Sh_check_38 : decode prog_1_method_37_code 38 = .ok (.bipush (-2), 2) := by decide +kernel
theorem d_Sh_check_40 : decode prog_1_method_37_code 40 = .ok (.ireturn, 1) := by decide +kernel
theorem d_Sh_check_7 : decode prog_1_method_37_code 7 = .ok (.iconst 0, 1) := by decide +kernel
theorem d_Sh_check_8 : decode prog_1_method_37_code 8 = .ok (.iload_n 2, 1) := by decide +kernel
theorem d_Sh_check_9 : decode prog_1_method_37_code 9 = .ok (.invokestatic 119, 3) := by decide +kernel
theorem d_Sh_check_15 : decode prog_1_method_37_code 15 = .ok (.iload_n 3, 1) := by decide +kernel
theorem d_Sh_check_19 : decode prog_1_method_37_code 19 = .ok (.iload_n 3, 1) := by decide +kernel
theorem d_Sh_check_20 : decode prog_1_method_37_code 20 = .ok (.bipush 12, 2) := by decide +kernel
theorem d_Sh_check_25 : decode prog_1_method_37_code 25 = .ok (.iload_n 3, 1) := by decide +kernel
theorem d_Sh_check_26 : decode prog_1_method_37_code 26 = .ok (.iconst 4, 1) := by decide +kernel
theorem d_Sh_check_27 : decode prog_1_method_37_code 27 = .ok (.imul, 1) := by decide +kernel
theorem d_Sh_check_28 : decode prog_1_method_37_code 28 = .ok (.aload_n 0, 1) := by decide +kernel
theorem d_Sh_check_29 : decode prog_1_method_37_code 29 = .ok (.getfield 10, 3) := by decide +kernel
theorem d_Sh_check_32 : decode prog_1_method_37_code 32 = .ok (.invokevirtual 101, 3) := by decide +kernel
theorem d_Sh_check_41 : decode prog_1_method_37_code 41 = .ok (.aload_n 0, 1) := by decide +kernel
theorem d_Sh_check_42 : decode prog_1_method_37_code 42 = .ok (.invokevirtual 181, 3) := by decide +kernel
theorem d_Sh_check_45 : decode prog_1_method_37_code 45 = .ok (.astore 4, 2) := by decide +kernel
theorem d_Sh_check_47 : decode prog_1_method_37_code 47 = .ok (.iconst (-1), 1) := by decide +kernel
theorem d_Sh_check_48 : decode prog_1_method_37_code 48 = .ok (.istore 5, 2) := by decide +kernel
theorem d_Sh_check_50 : decode prog_1_method_37_code 50 = .ok (.iconst 0, 1) := by decide +kernel
theorem d_Sh_check_51 : decode prog_1_method_37_code 51 = .ok (.istore 6, 2) := by decide +kernel
theorem d_Sh_check_53 : decode prog_1_method_37_code 53 = .ok (.iload 6, 2) := by decide +kernel
theorem d_Sh_check_55 : decode prog_1_method_37_code 55 = .ok (.iload_n 3, 1) := by decide +kernel
theorem d_Sh_check_59 : decode prog_1_method_37_code 59 = .ok (.iload 5, 2) := by decide +kernel
theorem d_Sh_check_61 : decode prog_1_method_37_code 61 = .ok (.iconst (-1), 1) := by decide +kernel
theorem d_Sh_check_65 : decode prog_1_method_37_code 65 = .ok (.aload_n 0, 1) := by decide +kernel
theorem d_Sh_check_66 : decode prog_1_method_37_code 66 = .ok (.getfield 10, 3) := by decide +kernel
theorem d_Sh_check_69 : decode prog_1_method_37_code 69 = .ok (.iload 6, 2) := by decide +kernel
theorem d_Sh_check_71 : decode prog_1_method_37_code 71 = .ok (.invokevirtual 360, 3) := by decide +kernel
theorem k_Ta_intAt : MOk m_Ta_intAt 1 ∧ IOk m_Ta_intAt := ⟨⟨atG 1306 (by decide +kernel) rfl, atG 112 (by decide +kernel) rfl, ⟨by decide, by decide⟩, by decide +kernel, by decide⟩, atG 1304 (by decide +kernel) rfl, atG 1305 (by decide +kernel) rfl⟩
theorem lk_Sh_360 : Cond.methodLink "ShadeTown" 360 ⟨"ShadeTown$Tape", "intAt", "(I)I"⟩ ∈ tblG := atG 1303 (by decide +kernel) rfl
theorem d_Sh_check_74 : decode prog_1_method_37_code 74 = .ok (.aload 4, 2) := by decide +kernel
theorem d_Sh_check_76 : decode prog_1_method_37_code 76 = .ok (.iload_n 1, 1) := by decide +kernel
theorem d_Sh_check_77 : decode prog_1_method_37_code 77 = .ok (.bipush 12, 2) := by decide +kernel
theorem d_Sh_check_79 : decode prog_1_method_37_code 79 = .ok (.iload_n 2, 1) := by decide +kernel
theorem d_Sh_check_80 : decode prog_1_method_37_code 80 = .ok (.imul, 1) := by decide +kernel
theorem d_Sh_check_81 : decode prog_1_method_37_code 81 = .ok (.iload 6, 2) := by decide +kernel
theorem d_Sh_check_83 : decode prog_1_method_37_code 83 = .ok (.iadd, 1) := by decide +kernel
theorem d_Sh_check_84 : decode prog_1_method_37_code 84 = .ok (.invokevirtual 197, 3) := by decide +kernel
theorem d_Sh_check_87 : decode prog_1_method_37_code 87 = .ok (.invokestatic 355, 3) := by decide +kernel
theorem d_Sh_check_93 : decode prog_1_method_37_code 93 = .ok (.iload 6, 2) := by decide +kernel
theorem d_Sh_check_95 : decode prog_1_method_37_code 95 = .ok (.istore 5, 2) := by decide +kernel
theorem d_Sh_check_90 : decode prog_1_method_37_code 90 = .ok (.if_icmp .eq 7, 3) := by decide +kernel
theorem d_Sh_check_97 : decode prog_1_method_37_code 97 = .ok (.iinc 6 1, 3) := by decide +kernel
theorem d_Sh_check_100 : decode prog_1_method_37_code 100 = .ok (.goto (-47), 3) := by decide +kernel
theorem d_Sh_check_62 : decode prog_1_method_37_code 62 = .ok (.if_icmp .ne 41, 3) := by decide +kernel
theorem d_Sh_check_56 : decode prog_1_method_37_code 56 = .ok (.if_icmp .ge 47, 3) := by decide +kernel
theorem d_Sh_check_103 : decode prog_1_method_37_code 103 = .ok (.aload_n 0, 1) := by decide +kernel
theorem d_Sh_check_104 : decode prog_1_method_37_code 104 = .ok (.getfield 10, 3) := by decide +kernel
theorem d_Sh_check_107 : decode prog_1_method_37_code 107 = .ok (.invokevirtual 109, 3) := by decide +kernel
theorem d_Sh_check_110 : decode prog_1_method_37_code 110 = .ok (.iload 5, 2) := by decide +kernel
theorem d_Sh_check_112 : decode prog_1_method_37_code 112 = .ok (.ireturn, 1) := by decide +kernel
theorem d_Sh_check_35 : decode prog_1_method_37_code 35 = .ok (.if_icmp .le 6, 3) := by decide +kernel
theorem d_Sh_check_22 : decode prog_1_method_37_code 22 = .ok (.if_icmp .gt 16, 3) := by decide +kernel
theorem d_Sh_check_16 : decode prog_1_method_37_code 16 = .ok (.ifCond .lt 22, 3) := by decide +kernel
theorem d_Sh_check_12 : decode prog_1_method_37_code 12 = .ok (.ifCond .eq 26, 3) := by decide +kernel
theorem d_Sh_check_4 : decode prog_1_method_37_code 4 = .ok (.ifCond .eq 34, 3) := by decide +kernel
def B_Sh_check_l53 (N : Nat) (a1 : Int32) (a2 : Int32) (a3 : Int32) (σ : Mem) (rec : Int32 → Int32 → Option (Int32)) (x5 : Int32) (x6 : Int32) : Option (Int32) :=
  if a3 ≤ x6 then
    (some x5)
  else
    (if x5 = (-1) then
      (bnd1 (f_Ta_intAt N σ x6) fun r71 =>
      bnd1 (f_Da_whoCasts σ a1 ((12 * a2) + x6)) fun r84 =>
      bnd1 (f_JI_bitCount_0f7a4 r84) fun r87 =>
      bnd1 ((
        if r71 = r87 then
          (some x5)
        else
          (some x6)) : Option (Int32)) fun y90_5 =>
      letv (x6 + 1) fun v97 =>
      rec y90_5 v97)
    else
      (some x5))
def L_Sh_check_l53 (N : Nat) (a1 : Int32) (a2 : Int32) (a3 : Int32) (σ : Mem) : Nat → Int32 → Int32 → Option (Int32)
  | 0, _, _ => none
  | k + 1, x5, x6 => B_Sh_check_l53 N a1 a2 a3 σ (L_Sh_check_l53 N a1 a2 a3 σ k) x5 x6
set_option maxHeartbeats 4000000 in
set_option maxRecDepth 20000 in
theorem cL_Sh_check_l53 (Z : ZX) {Y : YX} {Q : State → Prop} {N : Nat} {a1 : Int32} {a2 : Int32} {a3 : Int32} {σ : Mem} {Good : Int32 → Prop} (hE : ∀ (o5 : Int32), Good o5 → V (mkB Z) Y m_Sh_check 6 Q 0 0 nC σ 103 [(0, rf Z 0), (5, .int o5)] []) : ∀ (k : Nat) (x5 : Int32) (x6 : Int32) (res : Int32), L_Sh_check_l53 N a1 a2 a3 σ k x5 x6 = some res → Good res → V (mkB Z) Y m_Sh_check 6 Q 0 0 nC σ 53 [(0, rf Z 0), (1, .int a1), (2, .int a2), (3, .int a3), (4, rf Z 33), (5, .int x5), (6, .int x6)] [] := by
  intro k
  induction k with
  | zero => intro x5 x6 res h; cases h
  | succ k ih =>
    intro x5 x6 res h hg
    replace h : B_Sh_check_l53 N a1 a2 a3 σ (L_Sh_check_l53 N a1 a2 a3 σ k) x5 x6 = some res := h
    unfold B_Sh_check_l53 at h
    refine V.iload d_Sh_check_53 6 rfl ?_
    refine V.iload_n d_Sh_check_55 rfl 3 rfl ?_
    refine V.icmp_ge (tgt := 103) d_Sh_check_56 (by decide) (fun hc56 => ?_) (fun hc56 => ?_)
    · replace h := ite_t hc56 h
      cases h
      exact V.pick [0, 5] rfl (hE _ hg)
    · replace h := ite_f hc56 h
      refine V.iload d_Sh_check_59 5 rfl ?_
      refine V.iconst (v := (-1)) d_Sh_check_61 (by decide) ?_
      refine V.icmp_ne (tgt := 103) d_Sh_check_62 (by decide) (fun hc62 => ?_) (fun hc62 => ?_)
      · replace h := ite_f hc62 h
        cases h
        exact V.pick [0, 5] rfl (hE _ hg)
      · replace h := ite_t hc62 h
        refine V.aload_n d_Sh_check_65 rfl 0 rfl ?_
        refine V.getR (r := 1) ok_Sh fl_Sh_10 (by decide) (by decide) ly_0 rfl d_Sh_check_66 ?_
        refine V.iload d_Sh_check_69 6 rfl ?_
        obtain ⟨r71, h1, h⟩ := bnd1_e h
        refine V.vI (as := [.int x6]) (st := []) (c_Ta_intAt Z h1) k_Ta_intAt lk_Sh_360 (by decide) rfl (by decide) ly_1 ok_Ta.1 rfl (Nat.le_of_ble_eq_true rfl) d_Sh_check_71 ?_
        refine V.aload d_Sh_check_74 4 rfl ?_
        refine V.iload_n d_Sh_check_76 rfl 1 rfl ?_
        refine V.bipush (v := 12) d_Sh_check_77 (by decide) ?_
        refine V.iload_n d_Sh_check_79 rfl 2 rfl ?_
        refine V.imul d_Sh_check_80 ?_
        refine V.iload d_Sh_check_81 6 rfl ?_
        refine V.iadd d_Sh_check_83 ?_
        obtain ⟨r84, h1, h⟩ := bnd1_e h
        refine V.vI (as := [.int a1, .int ((12 * a2) + x6)]) (st := [.int r71]) (c_Da_whoCasts Z h1) k_Da_whoCasts lk_Sh_197 (by decide) rfl (by decide) ly_33 ok_Da.1 rfl (Nat.le_of_ble_eq_true rfl) d_Sh_check_84 ?_
        obtain ⟨r87, h1, h⟩ := bnd1_e h
        refine V.sI (as := [.int r84]) (st := [.int r71]) (c_JI_bitCount_0f7a4 Z h1) k_JI_bitCount_0f7a4 lk_Sh_355 (by decide) rfl rfl (Nat.le_of_ble_eq_true rfl) d_Sh_check_87 ?_
        obtain ⟨s90, h1, h⟩ := bnd1_e h
        have J90_97 : ∀ (y90_5 : Int32), s90 = y90_5 → V (mkB Z) Y m_Sh_check 6 Q 0 0 nC σ 97 [(0, rf Z 0), (1, .int a1), (2, .int a2), (3, .int a3), (4, rf Z 33), (5, .int y90_5), (6, .int x6)] [] := by
          intro y90_5 he
          rw [he] at h
          obtain ⟨v97, e_v97, h⟩ := letv_e h
          refine V.iinc (v := v97) (lv' := [(6, .int v97), (0, rf Z 0), (1, .int a1), (2, .int a2), (3, .int a3), (4, rf Z 33), (5, .int y90_5)]) d_Sh_check_97 6 rfl (by rw [e_v97]; rfl) (by decide) rfl ?_
          refine V.goto (tgt := 53) d_Sh_check_100 (by decide) ?_
          exact V.pick [1, 2, 3, 4, 5, 6, 0] rfl (ih _ _ _ h hg)
        replace h := h1
        refine V.icmp_eq (tgt := 97) d_Sh_check_90 (by decide) (fun hc90 => ?_) (fun hc90 => ?_)
        · replace h := ite_t hc90 h
          exact V.pick [0, 1, 2, 3, 4, 5, 6] rfl (J90_97 _ (Option.some.inj h).symm)
        · replace h := ite_f hc90 h
          refine V.iload d_Sh_check_93 6 rfl ?_
          refine V.istore (lv' := [(5, .int x6), (0, rf Z 0), (1, .int a1), (2, .int a2), (3, .int a3), (4, rf Z 33), (6, .int x6)]) d_Sh_check_95 (by decide) rfl ?_
          exact V.pick [1, 2, 3, 4, 5, 0, 6] rfl (J90_97 _ (Option.some.inj h).symm)
def f_Sh_check (N : Nat) (σ : Mem) (a1 : Int32) (a2 : Int32) (a3 : Int32) : Option (Int32 × Mem) :=
  bnd1 (f_Sh_isHour a1) fun r1 =>
  if r1 = 0 then
    (some ((-2), σ))
  else
    (bnd1 (f_Sh_inTown 0 a2) fun r9 =>
    if r9 = 0 then
      (some ((-2), σ))
    else
      (if a3 < 0 then
        (some ((-2), σ))
      else
        (if 12 < a3 then
          (some ((-2), σ))
        else
          (bnd1 (f_Ta_length σ) fun r32 =>
          if (a3 * 4) ≤ r32 then
            (bnd1 (f_Sh_today N σ) fun σ42 =>
            bnd1 (L_Sh_check_l53 N a1 a2 a3 σ42 N (-1) 0) fun z53_5 =>
            bnd1 (f_Ta_empty σ42) fun σ107 =>
            some (z53_5, σ107))
          else
            (some ((-2), σ))))))
set_option maxHeartbeats 4000000 in
set_option maxRecDepth 20000 in
theorem c_Sh_check (Z : ZX) {N : Nat} {σ : Mem} {a1 : Int32} {a2 : Int32} {a3 : Int32} {r : Int32} {σ' : Mem} (h : f_Sh_check N σ a1 a2 a3 = some (r, σ')) : CI Z 6 m_Sh_check [rf Z 0, .int a1, .int a2, .int a3] σ r σ' := by
  refine Ct.of (by decide +kernel) (Nat.le_of_ble_eq_true rfl) (fun Y => ?_)
  show V (mkB Z) Y m_Sh_check 6 (QP (mkB Z) Y nC 0 0 (fun v t => v = some (.int r) ∧ t = σ')) 0 0 nC σ 0 [(0, rf Z 0), (1, .int a1), (2, .int a2), (3, .int a3)] []
  unfold f_Sh_check at h
  refine V.iload_n d_Sh_check_0 rfl 1 rfl ?_
  obtain ⟨r1, h1, h⟩ := bnd1_e h
  refine V.sI (as := [.int a1]) (st := []) (c_Sh_isHour Z h1) k_Sh_isHour lk_Sh_178 (by decide) rfl rfl (Nat.le_of_ble_eq_true rfl) d_Sh_check_1 ?_
  refine V.if_eq (tgt := 38) d_Sh_check_4 (by decide) (fun hc4 => ?_) (fun hc4 => ?_)
  · replace h := ite_t hc4 h
    refine V.bipush (v := (-2)) d_Sh_check_38 (by decide) ?_
    cases h
    exact V.iret rfl d_Sh_check_40 ⟨rfl, rfl⟩
  · replace h := ite_f hc4 h
    refine V.iconst (v := 0) d_Sh_check_7 (by decide) ?_
    refine V.iload_n d_Sh_check_8 rfl 2 rfl ?_
    obtain ⟨r9, h1, h⟩ := bnd1_e h
    refine V.sI (as := [.int 0, .int a2]) (st := []) (c_Sh_inTown Z h1) k_Sh_inTown lk_Sh_119 (by decide) rfl rfl (Nat.le_of_ble_eq_true rfl) d_Sh_check_9 ?_
    refine V.if_eq (tgt := 38) d_Sh_check_12 (by decide) (fun hc12 => ?_) (fun hc12 => ?_)
    · replace h := ite_t hc12 h
      refine V.bipush (v := (-2)) d_Sh_check_38 (by decide) ?_
      cases h
      exact V.iret rfl d_Sh_check_40 ⟨rfl, rfl⟩
    · replace h := ite_f hc12 h
      refine V.iload_n d_Sh_check_15 rfl 3 rfl ?_
      refine V.if_lt (tgt := 38) d_Sh_check_16 (by decide) (fun hc16 => ?_) (fun hc16 => ?_)
      · replace h := ite_t hc16 h
        refine V.bipush (v := (-2)) d_Sh_check_38 (by decide) ?_
        cases h
        exact V.iret rfl d_Sh_check_40 ⟨rfl, rfl⟩
      · replace h := ite_f hc16 h
        refine V.iload_n d_Sh_check_19 rfl 3 rfl ?_
        refine V.bipush (v := 12) d_Sh_check_20 (by decide) ?_
        refine V.icmp_gt (tgt := 38) d_Sh_check_22 (by decide) (fun hc22 => ?_) (fun hc22 => ?_)
        · replace h := ite_t hc22 h
          refine V.bipush (v := (-2)) d_Sh_check_38 (by decide) ?_
          cases h
          exact V.iret rfl d_Sh_check_40 ⟨rfl, rfl⟩
        · replace h := ite_f hc22 h
          refine V.iload_n d_Sh_check_25 rfl 3 rfl ?_
          refine V.iconst (v := 4) d_Sh_check_26 (by decide) ?_
          refine V.imul d_Sh_check_27 ?_
          refine V.aload_n d_Sh_check_28 rfl 0 rfl ?_
          refine V.getR (r := 1) ok_Sh fl_Sh_10 (by decide) (by decide) ly_0 rfl d_Sh_check_29 ?_
          obtain ⟨r32, h1, h⟩ := bnd1_e h
          refine V.vI (as := []) (st := [.int (a3 * 4)]) (c_Ta_length Z h1) k_Ta_length lk_Sh_101 (by decide) rfl (by decide) ly_1 ok_Ta.1 rfl (Nat.le_of_ble_eq_true rfl) d_Sh_check_32 ?_
          refine V.icmp_le (tgt := 41) d_Sh_check_35 (by decide) (fun hc35 => ?_) (fun hc35 => ?_)
          · replace h := ite_t hc35 h
            refine V.aload_n d_Sh_check_41 rfl 0 rfl ?_
            obtain ⟨σ42, h1, h⟩ := bnd1_e h
            refine V.vA (as := []) (st := []) (c_Sh_today Z h1) k_Sh_today lk_Sh_181 (by decide) rfl (by decide) ly_0 ok_Sh.1 rfl (Nat.le_of_ble_eq_true rfl) d_Sh_check_42 ?_
            refine V.astore (lv' := [(4, rf Z 33), (0, rf Z 0), (1, .int a1), (2, .int a2), (3, .int a3)]) d_Sh_check_45 (by decide) rfl ?_
            refine V.iconst (v := (-1)) d_Sh_check_47 (by decide) ?_
            refine V.istore (lv' := [(5, .int (-1)), (4, rf Z 33), (0, rf Z 0), (1, .int a1), (2, .int a2), (3, .int a3)]) d_Sh_check_48 (by decide) rfl ?_
            refine V.iconst (v := 0) d_Sh_check_50 (by decide) ?_
            refine V.istore (lv' := [(6, .int 0), (5, .int (-1)), (4, rf Z 33), (0, rf Z 0), (1, .int a1), (2, .int a2), (3, .int a3)]) d_Sh_check_51 (by decide) rfl ?_
            obtain ⟨x53_, h1, h⟩ := bnd1_e h
            refine V.pick [3, 4, 5, 6, 2, 1, 0] rfl (cL_Sh_check_l53 Z (Good := fun z => x53_ = z) (fun z53_5 he => ?_) N _ _ _ h1 rfl)
            · rw [he] at h
              refine V.aload_n d_Sh_check_103 rfl 0 rfl ?_
              refine V.getR (r := 1) ok_Sh fl_Sh_10 (by decide) (by decide) ly_0 rfl d_Sh_check_104 ?_
              obtain ⟨σ107, h1, h⟩ := bnd1_e h
              refine V.vN (as := []) (st := []) (c_Ta_empty Z h1) k_Ta_empty lk_Sh_109 (by decide) rfl (by decide) ly_1 ok_Ta.1 rfl (Nat.le_of_ble_eq_true rfl) d_Sh_check_107 ?_
              refine V.iload d_Sh_check_110 1 rfl ?_
              cases h
              exact V.iret rfl d_Sh_check_112 ⟨rfl, rfl⟩
          · replace h := ite_f hc35 h
            refine V.bipush (v := (-2)) d_Sh_check_38 (by decide) ?_
            cases h
            exact V.iret rfl d_Sh_check_40 ⟨rfl, rfl⟩
def f_La_clauses (σ : Mem) : Option (Int32) :=
  some (mI σ 3 5)
set_option maxHeartbeats 4000000 in
set_option maxRecDepth 20000 in
theorem c_La_clauses (Z : ZX) {σ : Mem} {r : Int32} (h : f_La_clauses σ = some r) : CI Z 0 m_La_clauses [rf Z 3] σ r σ := by
  refine Ct.of (by decide +kernel) (Nat.le_of_ble_eq_true rfl) (fun Y => ?_)
  show V (mkB Z) Y m_La_clauses 0 (QP (mkB Z) Y nC 0 0 (fun v t => v = some (.int r) ∧ t = σ)) 0 0 nC σ 0 [(0, rf Z 3)] []
  unfold f_La_clauses at h
  refine V.aload_n d_La_clauses_0 rfl 0 rfl ?_
  refine V.getI ok_La fl_La_28 (by decide) (by decide) ly_3 rfl d_La_clauses_1 ?_
  cases h
  exact V.iret rfl d_La_clauses_4 ⟨rfl, rfl⟩
abbrev m_Ma_howManyTold : MI := (⟨"ShadeTown$Market", "howManyTold", "()I"⟩, prog_6_method_5_code, 1, (Option.some Jvm.ClassFile.FieldType.int))
theorem d_Ma_howManyTold_0 : decode prog_6_method_5_code 0 = .ok (.aload_n 0, 1) := by decide +kernel
theorem d_Ma_howManyTold_1 : decode prog_6_method_5_code 1 = .ok (.getfield 15, 3) := by decide +kernel
theorem d_Ma_howManyTold_4 : decode prog_6_method_5_code 4 = .ok (.invokestatic 52, 3) := by decide +kernel
theorem lk_Ma_52 : Cond.methodLink "ShadeTown$Market" 52 ⟨"java/lang/Integer", "bitCount", "(I)I"⟩ ∈ tblG := atG 1317 (by decide +kernel) rfl
theorem d_Ma_howManyTold_7 : decode prog_6_method_5_code 7 = .ok (.ireturn, 1) := by decide +kernel
def f_Ma_howManyTold (σ : Mem) : Option (Int32) :=
  bnd1 (f_JI_bitCount_0f7a4 (mI σ 47 1)) fun r4 =>
  some r4
set_option maxHeartbeats 4000000 in
set_option maxRecDepth 20000 in
theorem c_Ma_howManyTold (Z : ZX) {σ : Mem} {r : Int32} (h : f_Ma_howManyTold σ = some r) : CI Z 1 m_Ma_howManyTold [rf Z 47] σ r σ := by
  refine Ct.of (by decide +kernel) (Nat.le_of_ble_eq_true rfl) (fun Y => ?_)
  show V (mkB Z) Y m_Ma_howManyTold 1 (QP (mkB Z) Y nC 0 0 (fun v t => v = some (.int r) ∧ t = σ)) 0 0 nC σ 0 [(0, rf Z 47)] []
  unfold f_Ma_howManyTold at h
  refine V.aload_n d_Ma_howManyTold_0 rfl 0 rfl ?_
  refine V.getI ok_Ma fl_Ma_15 (by decide) (by decide) ly_47 rfl d_Ma_howManyTold_1 ?_
  obtain ⟨r4, h1, h⟩ := bnd1_e h
  refine V.sI (as := [.int (mI σ 47 1)]) (st := []) (c_JI_bitCount_0f7a4 Z h1) k_JI_bitCount_0f7a4 lk_Ma_52 (by decide) rfl rfl (Nat.le_of_ble_eq_true rfl) d_Ma_howManyTold_4 ?_
  cases h
  exact V.iret rfl d_Ma_howManyTold_7 ⟨rfl, rfl⟩
abbrev m_Wi_toldBits : MI := (⟨"ShadeTown$Wishes", "toldBits", "()I"⟩, prog_11_method_4_code, 1, (Option.some Jvm.ClassFile.FieldType.int))
theorem d_Wi_toldBits_0 : decode prog_11_method_4_code 0 = .ok (.aload_n 0, 1) := by decide +kernel
theorem d_Wi_toldBits_1 : decode prog_11_method_4_code 1 = .ok (.getfield 9, 3) := by decide +kernel
theorem d_Wi_toldBits_4 : decode prog_11_method_4_code 4 = .ok (.ireturn, 1) := by decide +kernel
def f_Wi_toldBits (σ : Mem) : Option (Int32) :=
  some (mI σ 56 0)
set_option maxHeartbeats 4000000 in
set_option maxRecDepth 20000 in
theorem c_Wi_toldBits (Z : ZX) {σ : Mem} {r : Int32} (h : f_Wi_toldBits σ = some r) : CI Z 0 m_Wi_toldBits [rf Z 56] σ r σ := by
  refine Ct.of (by decide +kernel) (Nat.le_of_ble_eq_true rfl) (fun Y => ?_)
  show V (mkB Z) Y m_Wi_toldBits 0 (QP (mkB Z) Y nC 0 0 (fun v t => v = some (.int r) ∧ t = σ)) 0 0 nC σ 0 [(0, rf Z 56)] []
  unfold f_Wi_toldBits at h
  refine V.aload_n d_Wi_toldBits_0 rfl 0 rfl ?_
  refine V.getI ok_Wi fl_Wi_9 (by decide) (by decide) ly_56 rfl d_Wi_toldBits_1 ?_
  cases h
  exact V.iret rfl d_Wi_toldBits_4 ⟨rfl, rfl⟩
abbrev m_Da_howManyFree : MI := (⟨"ShadeTown$Day", "howManyFree", "()I"⟩, prog_3_method_10_code, 3, (Option.some Jvm.ClassFile.FieldType.int))
theorem d_Da_howManyFree_0 : decode prog_3_method_10_code 0 = .ok (.iconst 0, 1) := by decide +kernel
theorem d_Da_howManyFree_1 : decode prog_3_method_10_code 1 = .ok (.istore_n 1, 1) := by decide +kernel
theorem d_Da_howManyFree_2 : decode prog_3_method_10_code 2 = .ok (.iconst 0, 1) := by decide +kernel
theorem d_Da_howManyFree_3 : decode prog_3_method_10_code 3 = .ok (.istore_n 2, 1) := by decide +kernel
theorem d_Da_howManyFree_4 : decode prog_3_method_10_code 4 = .ok (.iload_n 2, 1) := by decide +kernel
theorem d_Da_howManyFree_5 : decode prog_3_method_10_code 5 = .ok (.sipush 144, 3) := by decide +kernel
theorem d_Da_howManyFree_33 : decode prog_3_method_10_code 33 = .ok (.iload_n 1, 1) := by decide +kernel
theorem d_Da_howManyFree_34 : decode prog_3_method_10_code 34 = .ok (.ireturn, 1) := by decide +kernel
theorem d_Da_howManyFree_11 : decode prog_3_method_10_code 11 = .ok (.iload_n 1, 1) := by decide +kernel
theorem d_Da_howManyFree_12 : decode prog_3_method_10_code 12 = .ok (.aload_n 0, 1) := by decide +kernel
theorem d_Da_howManyFree_13 : decode prog_3_method_10_code 13 = .ok (.iload_n 2, 1) := by decide +kernel
theorem d_Da_howManyFree_14 : decode prog_3_method_10_code 14 = .ok (.invokevirtual 59, 3) := by decide +kernel
theorem d_Da_howManyFree_24 : decode prog_3_method_10_code 24 = .ok (.iconst 0, 1) := by decide +kernel
theorem d_Da_howManyFree_20 : decode prog_3_method_10_code 20 = .ok (.iconst 1, 1) := by decide +kernel
theorem d_Da_howManyFree_21 : decode prog_3_method_10_code 21 = .ok (.goto 4, 3) := by decide +kernel
theorem d_Da_howManyFree_17 : decode prog_3_method_10_code 17 = .ok (.ifCond .eq 7, 3) := by decide +kernel
theorem d_Da_howManyFree_25 : decode prog_3_method_10_code 25 = .ok (.iadd, 1) := by decide +kernel
theorem d_Da_howManyFree_26 : decode prog_3_method_10_code 26 = .ok (.istore_n 1, 1) := by decide +kernel
theorem d_Da_howManyFree_27 : decode prog_3_method_10_code 27 = .ok (.iinc 2 1, 3) := by decide +kernel
theorem d_Da_howManyFree_30 : decode prog_3_method_10_code 30 = .ok (.goto (-26), 3) := by decide +kernel
theorem d_Da_howManyFree_8 : decode prog_3_method_10_code 8 = .ok (.if_icmp .ge 25, 3) := by decide +kernel
def B_Da_howManyFree_l4 (N : Nat) (σ : Mem) (rec : Int32 → Int32 → Option (Int32)) (x1 : Int32) (x2 : Int32) : Option (Int32) :=
  if 144 ≤ x2 then
    (some x1)
  else
    (bnd1 (f_Da_isFree σ x2) fun r14 =>
    bnd1 ((
      if r14 = 0 then
        (some 0)
      else
        (some 1)) : Option (Int32)) fun y17_s1 =>
    letv (x1 + y17_s1) fun v26 =>
    letv (x2 + 1) fun v27 =>
    rec v26 v27)
def L_Da_howManyFree_l4 (N : Nat) (σ : Mem) : Nat → Int32 → Int32 → Option (Int32)
  | 0, _, _ => none
  | k + 1, x1, x2 => B_Da_howManyFree_l4 N σ (L_Da_howManyFree_l4 N σ k) x1 x2
set_option maxHeartbeats 4000000 in
set_option maxRecDepth 20000 in
theorem cL_Da_howManyFree_l4 (Z : ZX) {Y : YX} {post : Option Value → Mem → Prop} {N : Nat} {σ : Mem} {Good : Int32 → Prop} (hR : ∀ (v : Int32), Good v → post (some (.int v)) σ) : ∀ (k : Nat) (x1 : Int32) (x2 : Int32) (res : Int32), L_Da_howManyFree_l4 N σ k x1 x2 = some res → Good res → V (mkB Z) Y m_Da_howManyFree 1 (QP (mkB Z) Y nC 0 0 post) 0 0 nC σ 4 [(0, rf Z 33), (1, .int x1), (2, .int x2)] [] := by
  intro k
  induction k with
  | zero => intro x1 x2 res h; cases h
  | succ k ih =>
    intro x1 x2 res h hg
    replace h : B_Da_howManyFree_l4 N σ (L_Da_howManyFree_l4 N σ k) x1 x2 = some res := h
    unfold B_Da_howManyFree_l4 at h
    refine V.iload_n d_Da_howManyFree_4 rfl 2 rfl ?_
    refine V.sipush (v := 144) d_Da_howManyFree_5 (by decide) ?_
    refine V.icmp_ge (tgt := 33) d_Da_howManyFree_8 (by decide) (fun hc8 => ?_) (fun hc8 => ?_)
    · replace h := ite_t hc8 h
      refine V.iload_n d_Da_howManyFree_33 rfl 1 rfl ?_
      cases h
      exact V.iret rfl d_Da_howManyFree_34 (hR _ hg)
    · replace h := ite_f hc8 h
      refine V.iload_n d_Da_howManyFree_11 rfl 1 rfl ?_
      refine V.aload_n d_Da_howManyFree_12 rfl 0 rfl ?_
      refine V.iload_n d_Da_howManyFree_13 rfl 2 rfl ?_
      obtain ⟨r14, h1, h⟩ := bnd1_e h
      refine V.vI (as := [.int x2]) (st := [.int x1]) (c_Da_isFree Z h1) k_Da_isFree lk_Da_59 (by decide) rfl (by decide) ly_33 ok_Da.1 rfl (Nat.le_of_ble_eq_true rfl) d_Da_howManyFree_14 ?_
      obtain ⟨s17, h1, h⟩ := bnd1_e h
      have J17_25 : ∀ (y17_s1 : Int32), s17 = y17_s1 → V (mkB Z) Y m_Da_howManyFree 1 (QP (mkB Z) Y nC 0 0 post) 0 0 nC σ 25 [(0, rf Z 33), (2, .int x2)] [.int y17_s1, .int x1] := by
        intro y17_s1 he
        rw [he] at h
        refine V.iadd d_Da_howManyFree_25 ?_
        obtain ⟨v26, e_v26, h⟩ := letv_e h
        refine V.topI e_v26 ?_
        refine V.istore_n (lv' := [(1, .int v26), (0, rf Z 33), (2, .int x2)]) d_Da_howManyFree_26 rfl (by decide) rfl ?_
        obtain ⟨v27, e_v27, h⟩ := letv_e h
        refine V.iinc (v := v27) (lv' := [(2, .int v27), (1, .int v26), (0, rf Z 33)]) d_Da_howManyFree_27 2 rfl (by rw [e_v27]; rfl) (by decide) rfl ?_
        refine V.goto (tgt := 4) d_Da_howManyFree_30 (by decide) ?_
        exact V.pick [2, 1, 0] rfl (ih _ _ _ h hg)
      replace h := h1
      refine V.if_eq (tgt := 24) d_Da_howManyFree_17 (by decide) (fun hc17 => ?_) (fun hc17 => ?_)
      · replace h := ite_t hc17 h
        refine V.iconst (v := 0) d_Da_howManyFree_24 (by decide) ?_
        exact V.pick [0, 2] rfl (J17_25 _ (Option.some.inj h).symm)
      · replace h := ite_f hc17 h
        refine V.iconst (v := 1) d_Da_howManyFree_20 (by decide) ?_
        refine V.goto (tgt := 25) d_Da_howManyFree_21 (by decide) ?_
        exact V.pick [0, 2] rfl (J17_25 _ (Option.some.inj h).symm)
def f_Da_howManyFree (N : Nat) (σ : Mem) : Option (Int32) :=
  L_Da_howManyFree_l4 N σ N 0 0
set_option maxHeartbeats 4000000 in
set_option maxRecDepth 20000 in
theorem c_Da_howManyFree (Z : ZX) {N : Nat} {σ : Mem} {r : Int32} (h : f_Da_howManyFree N σ = some r) : CI Z 1 m_Da_howManyFree [rf Z 33] σ r σ := by
  refine Ct.of (by decide +kernel) (Nat.le_of_ble_eq_true rfl) (fun Y => ?_)
  show V (mkB Z) Y m_Da_howManyFree 1 (QP (mkB Z) Y nC 0 0 (fun v t => v = some (.int r) ∧ t = σ)) 0 0 nC σ 0 [(0, rf Z 33)] []
  unfold f_Da_howManyFree at h
  refine V.iconst (v := 0) d_Da_howManyFree_0 (by decide) ?_
  refine V.istore_n (lv' := [(1, .int 0), (0, rf Z 33)]) d_Da_howManyFree_1 rfl (by decide) rfl ?_
  refine V.iconst (v := 0) d_Da_howManyFree_2 (by decide) ?_
  refine V.istore_n (lv' := [(2, .int 0), (1, .int 0), (0, rf Z 33)]) d_Da_howManyFree_3 rfl (by decide) rfl ?_
  refine V.pick [2, 1, 0] rfl (cL_Da_howManyFree_l4 Z (Good := fun z => z = _) (fun r4v he => ?_) N _ _ _ h rfl)
  · cases he
    exact ⟨rfl, rfl⟩
abbrev m_Sh_count : MI := (⟨"ShadeTown", "count", "(I)I"⟩, prog_1_method_38_code, 2, (Option.some Jvm.ClassFile.FieldType.int))
theorem d_Sh_count_0 : decode prog_1_method_38_code 0 = .ok (.iload_n 1, 1) := by decide +kernel
theorem d_Sh_count_52 : decode prog_1_method_38_code 52 = .ok (.aload_n 0, 1) := by decide +kernel
theorem d_Sh_count_53 : decode prog_1_method_38_code 53 = .ok (.getfield 38, 3) := by decide +kernel
theorem d_Sh_count_56 : decode prog_1_method_38_code 56 = .ok (.getfield 363, 3) := by decide +kernel
theorem d_Sh_count_59 : decode prog_1_method_38_code 59 = .ok (.ireturn, 1) := by decide +kernel
theorem d_Sh_count_60 : decode prog_1_method_38_code 60 = .ok (.aload_n 0, 1) := by decide +kernel
theorem d_Sh_count_61 : decode prog_1_method_38_code 61 = .ok (.getfield 38, 3) := by decide +kernel
theorem d_Sh_count_64 : decode prog_1_method_38_code 64 = .ok (.getfield 352, 3) := by decide +kernel
theorem d_Sh_count_67 : decode prog_1_method_38_code 67 = .ok (.ireturn, 1) := by decide +kernel
theorem d_Sh_count_68 : decode prog_1_method_38_code 68 = .ok (.aload_n 0, 1) := by decide +kernel
theorem d_Sh_count_69 : decode prog_1_method_38_code 69 = .ok (.getfield 19, 3) := by decide +kernel
theorem d_Sh_count_72 : decode prog_1_method_38_code 72 = .ok (.invokevirtual 366, 3) := by decide +kernel
theorem lk_Sh_366 : Cond.methodLink "ShadeTown" 366 ⟨"ShadeTown$Law", "clauses", "()I"⟩ ∈ tblG := atG 1312 (by decide +kernel) rfl
theorem d_Sh_count_75 : decode prog_1_method_38_code 75 = .ok (.ireturn, 1) := by decide +kernel
theorem d_Sh_count_76 : decode prog_1_method_38_code 76 = .ok (.aload_n 0, 1) := by decide +kernel
theorem d_Sh_count_77 : decode prog_1_method_38_code 77 = .ok (.getfield 10, 3) := by decide +kernel
theorem d_Sh_count_80 : decode prog_1_method_38_code 80 = .ok (.invokevirtual 101, 3) := by decide +kernel
theorem d_Sh_count_83 : decode prog_1_method_38_code 83 = .ok (.ireturn, 1) := by decide +kernel
theorem d_Sh_count_84 : decode prog_1_method_38_code 84 = .ok (.aload_n 0, 1) := by decide +kernel
theorem d_Sh_count_85 : decode prog_1_method_38_code 85 = .ok (.getfield 38, 3) := by decide +kernel
theorem d_Sh_count_88 : decode prog_1_method_38_code 88 = .ok (.getfield 159, 3) := by decide +kernel
theorem d_Sh_count_91 : decode prog_1_method_38_code 91 = .ok (.ireturn, 1) := by decide +kernel
theorem d_Sh_count_92 : decode prog_1_method_38_code 92 = .ok (.aload_n 0, 1) := by decide +kernel
theorem d_Sh_count_93 : decode prog_1_method_38_code 93 = .ok (.getfield 38, 3) := by decide +kernel
theorem d_Sh_count_96 : decode prog_1_method_38_code 96 = .ok (.getfield 346, 3) := by decide +kernel
theorem d_Sh_count_99 : decode prog_1_method_38_code 99 = .ok (.ireturn, 1) := by decide +kernel
theorem d_Sh_count_100 : decode prog_1_method_38_code 100 = .ok (.aload_n 0, 1) := by decide +kernel
theorem d_Sh_count_101 : decode prog_1_method_38_code 101 = .ok (.getfield 75, 3) := by decide +kernel
theorem d_Sh_count_104 : decode prog_1_method_38_code 104 = .ok (.invokevirtual 369, 3) := by decide +kernel
theorem k_Ma_howManyTold : MOk m_Ma_howManyTold 0 ∧ IOk m_Ma_howManyTold := ⟨⟨atG 1316 (by decide +kernel) rfl, atG 119 (by decide +kernel) rfl, ⟨by decide, by decide⟩, by decide +kernel, by decide⟩, atG 1314 (by decide +kernel) rfl, atG 1315 (by decide +kernel) rfl⟩
theorem lk_Sh_369 : Cond.methodLink "ShadeTown" 369 ⟨"ShadeTown$Market", "howManyTold", "()I"⟩ ∈ tblG := atG 1313 (by decide +kernel) rfl
theorem d_Sh_count_107 : decode prog_1_method_38_code 107 = .ok (.ireturn, 1) := by decide +kernel
theorem d_Sh_count_108 : decode prog_1_method_38_code 108 = .ok (.aload_n 0, 1) := by decide +kernel
theorem d_Sh_count_109 : decode prog_1_method_38_code 109 = .ok (.getfield 82, 3) := by decide +kernel
theorem d_Sh_count_112 : decode prog_1_method_38_code 112 = .ok (.invokevirtual 372, 3) := by decide +kernel
theorem k_Wi_toldBits : MOk m_Wi_toldBits 0 ∧ IOk m_Wi_toldBits := ⟨⟨atG 1321 (by decide +kernel) rfl, atG 120 (by decide +kernel) rfl, ⟨by decide, by decide⟩, by decide +kernel, by decide⟩, atG 1319 (by decide +kernel) rfl, atG 1320 (by decide +kernel) rfl⟩
theorem lk_Sh_372 : Cond.methodLink "ShadeTown" 372 ⟨"ShadeTown$Wishes", "toldBits", "()I"⟩ ∈ tblG := atG 1318 (by decide +kernel) rfl
theorem d_Sh_count_115 : decode prog_1_method_38_code 115 = .ok (.ireturn, 1) := by decide +kernel
theorem d_Sh_count_116 : decode prog_1_method_38_code 116 = .ok (.aload_n 0, 1) := by decide +kernel
theorem d_Sh_count_117 : decode prog_1_method_38_code 117 = .ok (.invokevirtual 181, 3) := by decide +kernel
theorem d_Sh_count_120 : decode prog_1_method_38_code 120 = .ok (.invokevirtual 375, 3) := by decide +kernel
theorem k_Da_howManyFree : MOk m_Da_howManyFree 0 ∧ IOk m_Da_howManyFree := ⟨⟨atG 1325 (by decide +kernel) rfl, atG 116 (by decide +kernel) rfl, ⟨by decide, by decide⟩, by decide +kernel, by decide⟩, atG 1323 (by decide +kernel) rfl, atG 1324 (by decide +kernel) rfl⟩
theorem lk_Sh_375 : Cond.methodLink "ShadeTown" 375 ⟨"ShadeTown$Day", "howManyFree", "()I"⟩ ∈ tblG := atG 1322 (by decide +kernel) rfl
theorem d_Sh_count_123 : decode prog_1_method_38_code 123 = .ok (.ireturn, 1) := by decide +kernel
theorem d_Sh_count_124 : decode prog_1_method_38_code 124 = .ok (.iconst (-1), 1) := by decide +kernel
theorem d_Sh_count_125 : decode prog_1_method_38_code 125 = .ok (.ireturn, 1) := by decide +kernel
theorem d_Sh_count_1 : decode prog_1_method_38_code 1 = .ok (.tableswitch 123 0 8 #[51, 59, 67, 75, 83, 91, 99, 107, 115], 51) := by decide +kernel
def f_Sh_count (N : Nat) (σ : Mem) (a1 : Int32) : Option (Int32 × Mem) :=
  if a1 = 0 then
    (some (mI σ 19 6, σ))
  else
  if a1 = 1 then
    (some (mI σ 19 7, σ))
  else
  if a1 = 2 then
    (bnd1 (f_La_clauses σ) fun r72 =>
    some (r72, σ))
  else
  if a1 = 3 then
    (bnd1 (f_Ta_length σ) fun r80 =>
    some (r80, σ))
  else
  if a1 = 4 then
    (some (mI σ 19 8, σ))
  else
  if a1 = 5 then
    (some (mI σ 19 9, σ))
  else
  if a1 = 6 then
    (bnd1 (f_Ma_howManyTold σ) fun r104 =>
    some (r104, σ))
  else
  if a1 = 7 then
    (bnd1 (f_Wi_toldBits σ) fun r112 =>
    some (r112, σ))
  else
  if a1 = 8 then
    (bnd1 (f_Sh_today N σ) fun σ117 =>
    bnd1 (f_Da_howManyFree N σ117) fun r120 =>
    some (r120, σ117))
  else
  (some ((-1), σ))
set_option maxHeartbeats 4000000 in
set_option maxRecDepth 20000 in
theorem c_Sh_count (Z : ZX) {N : Nat} {σ : Mem} {a1 : Int32} {r : Int32} {σ' : Mem} (h : f_Sh_count N σ a1 = some (r, σ')) : CI Z 6 m_Sh_count [rf Z 0, .int a1] σ r σ' := by
  refine Ct.of (by decide +kernel) (Nat.le_of_ble_eq_true rfl) (fun Y => ?_)
  show V (mkB Z) Y m_Sh_count 6 (QP (mkB Z) Y nC 0 0 (fun v t => v = some (.int r) ∧ t = σ')) 0 0 nC σ 0 [(0, rf Z 0), (1, .int a1)] []
  unfold f_Sh_count at h
  refine V.iload_n d_Sh_count_0 rfl 1 rfl ?_
  by_cases hs1_0 : a1 = 0
  · replace h := ite_t hs1_0 h
    refine V.tin (c := 0) (tgt := 52) d_Sh_count_1 hs1_0 (by decide) (by decide) rfl (by decide) ?_
    refine V.aload_n d_Sh_count_52 rfl 0 rfl ?_
    refine V.getR (r := 19) ok_Sh fl_Sh_38 (by decide) (by decide) ly_0 rfl d_Sh_count_53 ?_
    refine V.getI ok_To fl_Sh_363 (by decide) (by decide) ly_19 rfl d_Sh_count_56 ?_
    cases h
    exact V.iret rfl d_Sh_count_59 ⟨rfl, rfl⟩
  · replace h := ite_f hs1_0 h
    by_cases hs1_1 : a1 = 1
    · replace h := ite_t hs1_1 h
      refine V.tin (c := 1) (tgt := 60) d_Sh_count_1 hs1_1 (by decide) (by decide) rfl (by decide) ?_
      refine V.aload_n d_Sh_count_60 rfl 0 rfl ?_
      refine V.getR (r := 19) ok_Sh fl_Sh_38 (by decide) (by decide) ly_0 rfl d_Sh_count_61 ?_
      refine V.getI ok_To fl_Sh_352 (by decide) (by decide) ly_19 rfl d_Sh_count_64 ?_
      cases h
      exact V.iret rfl d_Sh_count_67 ⟨rfl, rfl⟩
    · replace h := ite_f hs1_1 h
      by_cases hs1_2 : a1 = 2
      · replace h := ite_t hs1_2 h
        refine V.tin (c := 2) (tgt := 68) d_Sh_count_1 hs1_2 (by decide) (by decide) rfl (by decide) ?_
        refine V.aload_n d_Sh_count_68 rfl 0 rfl ?_
        refine V.getR (r := 3) ok_Sh fl_Sh_19 (by decide) (by decide) ly_0 rfl d_Sh_count_69 ?_
        obtain ⟨r72, h1, h⟩ := bnd1_e h
        refine V.vI (as := []) (st := []) (c_La_clauses Z h1) k_La_clauses lk_Sh_366 (by decide) rfl (by decide) ly_3 ok_La.1 rfl (Nat.le_of_ble_eq_true rfl) d_Sh_count_72 ?_
        cases h
        exact V.iret rfl d_Sh_count_75 ⟨rfl, rfl⟩
      · replace h := ite_f hs1_2 h
        by_cases hs1_3 : a1 = 3
        · replace h := ite_t hs1_3 h
          refine V.tin (c := 3) (tgt := 76) d_Sh_count_1 hs1_3 (by decide) (by decide) rfl (by decide) ?_
          refine V.aload_n d_Sh_count_76 rfl 0 rfl ?_
          refine V.getR (r := 1) ok_Sh fl_Sh_10 (by decide) (by decide) ly_0 rfl d_Sh_count_77 ?_
          obtain ⟨r80, h1, h⟩ := bnd1_e h
          refine V.vI (as := []) (st := []) (c_Ta_length Z h1) k_Ta_length lk_Sh_101 (by decide) rfl (by decide) ly_1 ok_Ta.1 rfl (Nat.le_of_ble_eq_true rfl) d_Sh_count_80 ?_
          cases h
          exact V.iret rfl d_Sh_count_83 ⟨rfl, rfl⟩
        · replace h := ite_f hs1_3 h
          by_cases hs1_4 : a1 = 4
          · replace h := ite_t hs1_4 h
            refine V.tin (c := 4) (tgt := 84) d_Sh_count_1 hs1_4 (by decide) (by decide) rfl (by decide) ?_
            refine V.aload_n d_Sh_count_84 rfl 0 rfl ?_
            refine V.getR (r := 19) ok_Sh fl_Sh_38 (by decide) (by decide) ly_0 rfl d_Sh_count_85 ?_
            refine V.getI ok_To fl_Sh_159 (by decide) (by decide) ly_19 rfl d_Sh_count_88 ?_
            cases h
            exact V.iret rfl d_Sh_count_91 ⟨rfl, rfl⟩
          · replace h := ite_f hs1_4 h
            by_cases hs1_5 : a1 = 5
            · replace h := ite_t hs1_5 h
              refine V.tin (c := 5) (tgt := 92) d_Sh_count_1 hs1_5 (by decide) (by decide) rfl (by decide) ?_
              refine V.aload_n d_Sh_count_92 rfl 0 rfl ?_
              refine V.getR (r := 19) ok_Sh fl_Sh_38 (by decide) (by decide) ly_0 rfl d_Sh_count_93 ?_
              refine V.getI ok_To fl_Sh_346 (by decide) (by decide) ly_19 rfl d_Sh_count_96 ?_
              cases h
              exact V.iret rfl d_Sh_count_99 ⟨rfl, rfl⟩
            · replace h := ite_f hs1_5 h
              by_cases hs1_6 : a1 = 6
              · replace h := ite_t hs1_6 h
                refine V.tin (c := 6) (tgt := 100) d_Sh_count_1 hs1_6 (by decide) (by decide) rfl (by decide) ?_
                refine V.aload_n d_Sh_count_100 rfl 0 rfl ?_
                refine V.getR (r := 47) ok_Sh fl_Sh_75 (by decide) (by decide) ly_0 rfl d_Sh_count_101 ?_
                obtain ⟨r104, h1, h⟩ := bnd1_e h
                refine V.vI (as := []) (st := []) (c_Ma_howManyTold Z h1) k_Ma_howManyTold lk_Sh_369 (by decide) rfl (by decide) ly_47 ok_Ma.1 rfl (Nat.le_of_ble_eq_true rfl) d_Sh_count_104 ?_
                cases h
                exact V.iret rfl d_Sh_count_107 ⟨rfl, rfl⟩
              · replace h := ite_f hs1_6 h
                by_cases hs1_7 : a1 = 7
                · replace h := ite_t hs1_7 h
                  refine V.tin (c := 7) (tgt := 108) d_Sh_count_1 hs1_7 (by decide) (by decide) rfl (by decide) ?_
                  refine V.aload_n d_Sh_count_108 rfl 0 rfl ?_
                  refine V.getR (r := 56) ok_Sh fl_Sh_82 (by decide) (by decide) ly_0 rfl d_Sh_count_109 ?_
                  obtain ⟨r112, h1, h⟩ := bnd1_e h
                  refine V.vI (as := []) (st := []) (c_Wi_toldBits Z h1) k_Wi_toldBits lk_Sh_372 (by decide) rfl (by decide) ly_56 ok_Wi.1 rfl (Nat.le_of_ble_eq_true rfl) d_Sh_count_112 ?_
                  cases h
                  exact V.iret rfl d_Sh_count_115 ⟨rfl, rfl⟩
                · replace h := ite_f hs1_7 h
                  by_cases hs1_8 : a1 = 8
                  · replace h := ite_t hs1_8 h
                    refine V.tin (c := 8) (tgt := 116) d_Sh_count_1 hs1_8 (by decide) (by decide) rfl (by decide) ?_
                    refine V.aload_n d_Sh_count_116 rfl 0 rfl ?_
                    obtain ⟨σ117, h1, h⟩ := bnd1_e h
                    refine V.vA (as := []) (st := []) (c_Sh_today Z h1) k_Sh_today lk_Sh_181 (by decide) rfl (by decide) ly_0 ok_Sh.1 rfl (Nat.le_of_ble_eq_true rfl) d_Sh_count_117 ?_
                    obtain ⟨r120, h1, h⟩ := bnd1_e h
                    refine V.vI (as := []) (st := []) (c_Da_howManyFree Z h1) k_Da_howManyFree lk_Sh_375 (by decide) rfl (by decide) ly_33 ok_Da.1 rfl (Nat.le_of_ble_eq_true rfl) d_Sh_count_120 ?_
                    cases h
                    exact V.iret rfl d_Sh_count_123 ⟨rfl, rfl⟩
                  · replace h := ite_f hs1_8 h
                    refine V.tdef (tgt := 124) d_Sh_count_1 (fun i h1 h2 => ?_) (by decide) ?_
                    · rcases (show i = 0 ∨ i = 1 ∨ i = 2 ∨ i = 3 ∨ i = 4 ∨ i = 5 ∨ i = 6 ∨ i = 7 ∨ i = 8 by omega) with rfl | rfl | rfl | rfl | rfl | rfl | rfl | rfl | rfl
                      · exact Or.inl (fun e => hs1_0 (e.trans (by decide)))
                      · exact Or.inl (fun e => hs1_1 (e.trans (by decide)))
                      · exact Or.inl (fun e => hs1_2 (e.trans (by decide)))
                      · exact Or.inl (fun e => hs1_3 (e.trans (by decide)))
                      · exact Or.inl (fun e => hs1_4 (e.trans (by decide)))
                      · exact Or.inl (fun e => hs1_5 (e.trans (by decide)))
                      · exact Or.inl (fun e => hs1_6 (e.trans (by decide)))
                      · exact Or.inl (fun e => hs1_7 (e.trans (by decide)))
                      · exact Or.inl (fun e => hs1_8 (e.trans (by decide)))
                    · refine V.iconst (v := (-1)) d_Sh_count_124 (by decide) ?_
                      cases h
                      exact V.iret rfl d_Sh_count_125 ⟨rfl, rfl⟩
abbrev m_Mo_types : MI := (⟨"ShadeTownModel", "types", "(I)V"⟩, prog_13_method_23_code, 3, (Option.none : Option Jvm.ClassFile.FieldType))
theorem d_Mo_types_0 : decode prog_13_method_23_code 0 = .ok (.iconst 3, 1) := by decide +kernel
theorem d_Mo_types_1 : decode prog_13_method_23_code 1 = .ok (.istore_n 2, 1) := by decide +kernel
theorem d_Mo_types_2 : decode prog_13_method_23_code 2 = .ok (.iload_n 2, 1) := by decide +kernel
theorem d_Mo_types_38 : decode prog_13_method_23_code 38 = .ok (.return_, 1) := by decide +kernel
theorem d_Mo_types_6 : decode prog_13_method_23_code 6 = .ok (.aload_n 0, 1) := by decide +kernel
theorem fl_Mo_28 : FL "ShadeTownModel" 28 T_Mo 10 := atG 1342 (by decide +kernel) rfl
theorem d_Mo_types_7 : decode prog_13_method_23_code 7 = .ok (.getfield 28, 3) := by decide +kernel
theorem d_Mo_types_10 : decode prog_13_method_23_code 10 = .ok (.aload_n 0, 1) := by decide +kernel
theorem fl_Mo_205 : FL "ShadeTownModel" 205 T_Mo 11 := atG 1343 (by decide +kernel) rfl
theorem d_Mo_types_11 : decode prog_13_method_23_code 11 = .ok (.getfield 205, 3) := by decide +kernel
theorem d_Mo_types_14 : decode prog_13_method_23_code 14 = .ok (.iload_n 1, 1) := by decide +kernel
theorem d_Mo_types_15 : decode prog_13_method_23_code 15 = .ok (.bipush 8, 2) := by decide +kernel
theorem d_Mo_types_17 : decode prog_13_method_23_code 17 = .ok (.iload_n 2, 1) := by decide +kernel
theorem d_Mo_types_18 : decode prog_13_method_23_code 18 = .ok (.imul, 1) := by decide +kernel
theorem d_Mo_types_19 : decode prog_13_method_23_code 19 = .ok (.ishr, 1) := by decide +kernel
theorem d_Mo_types_20 : decode prog_13_method_23_code 20 = .ok (.i2b, 1) := by decide +kernel
theorem d_Mo_types_21 : decode prog_13_method_23_code 21 = .ok (.bastore, 1) := by decide +kernel
theorem d_Mo_types_22 : decode prog_13_method_23_code 22 = .ok (.aload_n 0, 1) := by decide +kernel
theorem d_Mo_types_23 : decode prog_13_method_23_code 23 = .ok (.aload_n 0, 1) := by decide +kernel
theorem d_Mo_types_24 : decode prog_13_method_23_code 24 = .ok (.getfield 205, 3) := by decide +kernel
theorem d_Mo_types_27 : decode prog_13_method_23_code 27 = .ok (.iconst 1, 1) := by decide +kernel
theorem d_Mo_types_28 : decode prog_13_method_23_code 28 = .ok (.iadd, 1) := by decide +kernel
theorem d_Mo_types_29 : decode prog_13_method_23_code 29 = .ok (.putfield 205, 3) := by decide +kernel
theorem d_Mo_types_32 : decode prog_13_method_23_code 32 = .ok (.iinc 2 (-1), 3) := by decide +kernel
theorem d_Mo_types_35 : decode prog_13_method_23_code 35 = .ok (.goto (-33), 3) := by decide +kernel
theorem d_Mo_types_3 : decode prog_13_method_23_code 3 = .ok (.ifCond .lt 35, 3) := by decide +kernel
def B_Mo_types_l2 (N : Nat) (a1 : Int32) (rec : Int32 → Mem → Option (Mem)) (x2 : Int32) (σ : Mem) : Option (Mem) :=
  if x2 < 0 then
    (some σ)
  else
    (grd (inb (mI σ 65 11) 260) <|
    letv (sI σ 72 ((mI σ 65 11).toNatClampNeg) (((a1 >>> ((8 * x2) &&& 31)).toInt8.toInt32).toInt8.toInt32)) fun σ21 =>
    letv (sI σ21 65 11 ((mI σ21 65 11) + 1)) fun σ29 =>
    letv (x2 + (-1)) fun v32 =>
    rec v32 σ29)
def L_Mo_types_l2 (N : Nat) (a1 : Int32) : Nat → Int32 → Mem → Option (Mem)
  | 0, _, _ => none
  | k + 1, x2, σ => B_Mo_types_l2 N a1 (L_Mo_types_l2 N a1 k) x2 σ
set_option maxHeartbeats 4000000 in
set_option maxRecDepth 20000 in
theorem cL_Mo_types_l2 (Z : ZX) {Y : YX} {post : Option Value → Mem → Prop} {N : Nat} {a1 : Int32} {Good : Mem → Prop} (hR : ∀ (σr : Mem), Good σr → post none σr) : ∀ (k : Nat) (x2 : Int32) (σ : Mem) (res : Mem), L_Mo_types_l2 N a1 k x2 σ = some res → Good res → V (mkB Z) Y m_Mo_types 0 (QP (mkB Z) Y nC 0 0 post) 0 0 nC σ 2 [(0, rf Z 65), (1, .int a1), (2, .int x2)] [] := by
  intro k
  induction k with
  | zero => intro x2 σ res h; cases h
  | succ k ih =>
    intro x2 σ res h hg
    replace h : B_Mo_types_l2 N a1 (L_Mo_types_l2 N a1 k) x2 σ = some res := h
    unfold B_Mo_types_l2 at h
    refine V.iload_n d_Mo_types_2 rfl 2 rfl ?_
    refine V.if_lt (tgt := 38) d_Mo_types_3 (by decide) (fun hc3 => ?_) (fun hc3 => ?_)
    · replace h := ite_t hc3 h
      cases h
      exact V.vret rfl d_Mo_types_38 (hR _ hg)
    · replace h := ite_f hc3 h
      refine V.aload_n d_Mo_types_6 rfl 0 rfl ?_
      refine V.getR (r := 72) ok_Mo fl_Mo_28 (by decide) (by decide) ly_65 rfl d_Mo_types_7 ?_
      refine V.aload_n d_Mo_types_10 rfl 0 rfl ?_
      refine V.getI ok_Mo fl_Mo_205 (by decide) (by decide) ly_65 rfl d_Mo_types_11 ?_
      refine V.iload_n d_Mo_types_14 rfl 1 rfl ?_
      refine V.bipush (v := 8) d_Mo_types_15 (by decide) ?_
      refine V.iload_n d_Mo_types_17 rfl 2 rfl ?_
      refine V.imul d_Mo_types_18 ?_
      refine V.ishr d_Mo_types_19 ?_
      refine V.i2b d_Mo_types_20 ?_
      obtain ⟨gq, h⟩ := grd_e h
      obtain ⟨σ21, e_σ21, h⟩ := letv_e h
      refine V.wb (by decide) ly_72 (inb_e gq) rfl d_Mo_types_21 e_σ21 ?_
      refine V.aload_n d_Mo_types_22 rfl 0 rfl ?_
      refine V.aload_n d_Mo_types_23 rfl 0 rfl ?_
      refine V.getI ok_Mo fl_Mo_205 (by decide) (by decide) ly_65 rfl d_Mo_types_24 ?_
      refine V.iconst (v := 1) d_Mo_types_27 (by decide) ?_
      refine V.iadd d_Mo_types_28 ?_
      obtain ⟨σ29, e_σ29, h⟩ := letv_e h
      refine V.putI ok_Mo fl_Mo_205 (by decide) (by decide) ly_65 rfl rfl rfl rfl d_Mo_types_29 (V.mem e_σ29 ?_)
      obtain ⟨v32, e_v32, h⟩ := letv_e h
      refine V.iinc (v := v32) (lv' := [(2, .int v32), (0, rf Z 65), (1, .int a1)]) d_Mo_types_32 2 rfl (by rw [e_v32]; rfl) (by decide) rfl ?_
      refine V.goto (tgt := 2) d_Mo_types_35 (by decide) ?_
      exact V.pick [1, 2, 0] rfl (ih _ _ _ h hg)
def f_Mo_types (N : Nat) (σ : Mem) (a1 : Int32) : Option (Mem) :=
  L_Mo_types_l2 N a1 N 3 σ
set_option maxHeartbeats 4000000 in
set_option maxRecDepth 20000 in
theorem c_Mo_types (Z : ZX) {N : Nat} {σ : Mem} {a1 : Int32} {σ' : Mem} (h : f_Mo_types N σ a1 = some σ') : CN Z 0 m_Mo_types [rf Z 65, .int a1] σ σ' := by
  refine Ct.of (by decide +kernel) (Nat.le_of_ble_eq_true rfl) (fun Y => ?_)
  show V (mkB Z) Y m_Mo_types 0 (QP (mkB Z) Y nC 0 0 (fun v t => v = none ∧ t = σ')) 0 0 nC σ 0 [(0, rf Z 65), (1, .int a1)] []
  unfold f_Mo_types at h
  refine V.iconst (v := 3) d_Mo_types_0 (by decide) ?_
  refine V.istore_n (lv' := [(2, .int 3), (0, rf Z 65), (1, .int a1)]) d_Mo_types_1 rfl (by decide) rfl ?_
  refine V.pick [1, 2, 0] rfl (cL_Mo_types_l2 Z (Good := fun z => z = _) (fun r2m he => ?_) N _ _ _ h rfl)
  · cases he
    exact ⟨rfl, rfl⟩
abbrev m_Mo_feed : MI := (⟨"ShadeTownModel", "feed", "(IIIII)I"⟩, prog_13_method_24_code, 6, (Option.some Jvm.ClassFile.FieldType.int))
theorem d_Mo_feed_0 : decode prog_13_method_24_code 0 = .ok (.aload_n 0, 1) := by decide +kernel
theorem d_Mo_feed_1 : decode prog_13_method_24_code 1 = .ok (.getfield 205, 3) := by decide +kernel
theorem d_Mo_feed_4 : decode prog_13_method_24_code 4 = .ok (.bipush 20, 2) := by decide +kernel
theorem d_Mo_feed_6 : decode prog_13_method_24_code 6 = .ok (.iadd, 1) := by decide +kernel
theorem d_Mo_feed_7 : decode prog_13_method_24_code 7 = .ok (.sipush 260, 3) := by decide +kernel
theorem d_Mo_feed_15 : decode prog_13_method_24_code 15 = .ok (.aload_n 0, 1) := by decide +kernel
theorem d_Mo_feed_16 : decode prog_13_method_24_code 16 = .ok (.iload_n 1, 1) := by decide +kernel
theorem d_Mo_feed_17 : decode prog_13_method_24_code 17 = .ok (.invokevirtual 208, 3) := by decide +kernel
theorem k_Mo_types : MOk m_Mo_types 1 ∧ IOk m_Mo_types := ⟨⟨atG 1630 (by decide +kernel) rfl, atG 122 (by decide +kernel) rfl, ⟨by decide, by decide⟩, by decide +kernel, by decide⟩, atG 1629 (by decide +kernel) rfl, atG 47 (by decide +kernel) rfl⟩
theorem lk_Mo_208 : Cond.methodLink "ShadeTownModel" 208 ⟨"ShadeTownModel", "types", "(I)V"⟩ ∈ tblG := atG 1627 (by decide +kernel) rfl
theorem d_Mo_feed_20 : decode prog_13_method_24_code 20 = .ok (.aload_n 0, 1) := by decide +kernel
theorem d_Mo_feed_21 : decode prog_13_method_24_code 21 = .ok (.iload_n 2, 1) := by decide +kernel
theorem d_Mo_feed_22 : decode prog_13_method_24_code 22 = .ok (.invokevirtual 208, 3) := by decide +kernel
theorem d_Mo_feed_25 : decode prog_13_method_24_code 25 = .ok (.aload_n 0, 1) := by decide +kernel
theorem d_Mo_feed_26 : decode prog_13_method_24_code 26 = .ok (.iload_n 3, 1) := by decide +kernel
theorem d_Mo_feed_27 : decode prog_13_method_24_code 27 = .ok (.invokevirtual 208, 3) := by decide +kernel
theorem d_Mo_feed_30 : decode prog_13_method_24_code 30 = .ok (.aload_n 0, 1) := by decide +kernel
theorem d_Mo_feed_31 : decode prog_13_method_24_code 31 = .ok (.iload 4, 2) := by decide +kernel
theorem d_Mo_feed_33 : decode prog_13_method_24_code 33 = .ok (.invokevirtual 208, 3) := by decide +kernel
theorem d_Mo_feed_36 : decode prog_13_method_24_code 36 = .ok (.aload_n 0, 1) := by decide +kernel
theorem d_Mo_feed_37 : decode prog_13_method_24_code 37 = .ok (.iload 5, 2) := by decide +kernel
theorem d_Mo_feed_39 : decode prog_13_method_24_code 39 = .ok (.invokevirtual 208, 3) := by decide +kernel
theorem d_Mo_feed_42 : decode prog_13_method_24_code 42 = .ok (.aload_n 0, 1) := by decide +kernel
theorem d_Mo_feed_43 : decode prog_13_method_24_code 43 = .ok (.getfield 205, 3) := by decide +kernel
theorem d_Mo_feed_46 : decode prog_13_method_24_code 46 = .ok (.ireturn, 1) := by decide +kernel
theorem d_Mo_feed_13 : decode prog_13_method_24_code 13 = .ok (.iconst (-1), 1) := by decide +kernel
theorem d_Mo_feed_14 : decode prog_13_method_24_code 14 = .ok (.ireturn, 1) := by decide +kernel
theorem d_Mo_feed_10 : decode prog_13_method_24_code 10 = .ok (.if_icmp .le 5, 3) := by decide +kernel
def f_Mo_feed (N : Nat) (σ : Mem) (a1 : Int32) (a2 : Int32) (a3 : Int32) (a4 : Int32) (a5 : Int32) : Option (Int32 × Mem) :=
  if (mI σ 65 11) + 20 ≤ 260 then
    (bnd1 (f_Mo_types N σ a1) fun σ17 =>
    bnd1 (f_Mo_types N σ17 a2) fun σ22 =>
    bnd1 (f_Mo_types N σ22 a3) fun σ27 =>
    bnd1 (f_Mo_types N σ27 a4) fun σ33 =>
    bnd1 (f_Mo_types N σ33 a5) fun σ39 =>
    some (mI σ39 65 11, σ39))
  else
    (some ((-1), σ))
set_option maxHeartbeats 4000000 in
set_option maxRecDepth 20000 in
theorem c_Mo_feed (Z : ZX) {N : Nat} {σ : Mem} {a1 : Int32} {a2 : Int32} {a3 : Int32} {a4 : Int32} {a5 : Int32} {r : Int32} {σ' : Mem} (h : f_Mo_feed N σ a1 a2 a3 a4 a5 = some (r, σ')) : CI Z 1 m_Mo_feed [rf Z 65, .int a1, .int a2, .int a3, .int a4, .int a5] σ r σ' := by
  refine Ct.of (by decide +kernel) (Nat.le_of_ble_eq_true rfl) (fun Y => ?_)
  show V (mkB Z) Y m_Mo_feed 1 (QP (mkB Z) Y nC 0 0 (fun v t => v = some (.int r) ∧ t = σ')) 0 0 nC σ 0 [(0, rf Z 65), (1, .int a1), (2, .int a2), (3, .int a3), (4, .int a4), (5, .int a5)] []
  unfold f_Mo_feed at h
  refine V.aload_n d_Mo_feed_0 rfl 0 rfl ?_
  refine V.getI ok_Mo fl_Mo_205 (by decide) (by decide) ly_65 rfl d_Mo_feed_1 ?_
  refine V.bipush (v := 20) d_Mo_feed_4 (by decide) ?_
  refine V.iadd d_Mo_feed_6 ?_
  refine V.sipush (v := 260) d_Mo_feed_7 (by decide) ?_
  refine V.icmp_le (tgt := 15) d_Mo_feed_10 (by decide) (fun hc10 => ?_) (fun hc10 => ?_)
  · replace h := ite_t hc10 h
    refine V.aload_n d_Mo_feed_15 rfl 0 rfl ?_
    refine V.iload_n d_Mo_feed_16 rfl 1 rfl ?_
    obtain ⟨σ17, h1, h⟩ := bnd1_e h
    refine V.vN (as := [.int a1]) (st := []) (c_Mo_types Z h1) k_Mo_types lk_Mo_208 (by decide) rfl (by decide) ly_65 ok_Mo.1 rfl (Nat.le_of_ble_eq_true rfl) d_Mo_feed_17 ?_
    refine V.aload_n d_Mo_feed_20 rfl 0 rfl ?_
    refine V.iload_n d_Mo_feed_21 rfl 2 rfl ?_
    obtain ⟨σ22, h1, h⟩ := bnd1_e h
    refine V.vN (as := [.int a2]) (st := []) (c_Mo_types Z h1) k_Mo_types lk_Mo_208 (by decide) rfl (by decide) ly_65 ok_Mo.1 rfl (Nat.le_of_ble_eq_true rfl) d_Mo_feed_22 ?_
    refine V.aload_n d_Mo_feed_25 rfl 0 rfl ?_
    refine V.iload_n d_Mo_feed_26 rfl 3 rfl ?_
    obtain ⟨σ27, h1, h⟩ := bnd1_e h
    refine V.vN (as := [.int a3]) (st := []) (c_Mo_types Z h1) k_Mo_types lk_Mo_208 (by decide) rfl (by decide) ly_65 ok_Mo.1 rfl (Nat.le_of_ble_eq_true rfl) d_Mo_feed_27 ?_
    refine V.aload_n d_Mo_feed_30 rfl 0 rfl ?_
    refine V.iload d_Mo_feed_31 4 rfl ?_
    obtain ⟨σ33, h1, h⟩ := bnd1_e h
    refine V.vN (as := [.int a4]) (st := []) (c_Mo_types Z h1) k_Mo_types lk_Mo_208 (by decide) rfl (by decide) ly_65 ok_Mo.1 rfl (Nat.le_of_ble_eq_true rfl) d_Mo_feed_33 ?_
    refine V.aload_n d_Mo_feed_36 rfl 0 rfl ?_
    refine V.iload d_Mo_feed_37 5 rfl ?_
    obtain ⟨σ39, h1, h⟩ := bnd1_e h
    refine V.vN (as := [.int a5]) (st := []) (c_Mo_types Z h1) k_Mo_types lk_Mo_208 (by decide) rfl (by decide) ly_65 ok_Mo.1 rfl (Nat.le_of_ble_eq_true rfl) d_Mo_feed_39 ?_
    refine V.aload_n d_Mo_feed_42 rfl 0 rfl ?_
    refine V.getI ok_Mo fl_Mo_205 (by decide) (by decide) ly_65 rfl d_Mo_feed_43 ?_
    cases h
    exact V.iret rfl d_Mo_feed_46 ⟨rfl, rfl⟩
  · replace h := ite_f hc10 h
    refine V.iconst (v := (-1)) d_Mo_feed_13 (by decide) ?_
    cases h
    exact V.iret rfl d_Mo_feed_14 ⟨rfl, rfl⟩
abbrev m_Mo_in : MI := (⟨"ShadeTownModel", "in", "(III)Z"⟩, prog_13_method_2_code, 3, (Option.some Jvm.ClassFile.FieldType.boolean))
theorem d_Mo_in_0 : decode prog_13_method_2_code 0 = .ok (.iload_n 0, 1) := by decide +kernel
theorem d_Mo_in_1 : decode prog_13_method_2_code 1 = .ok (.iload_n 1, 1) := by decide +kernel
theorem d_Mo_in_14 : decode prog_13_method_2_code 14 = .ok (.iconst 0, 1) := by decide +kernel
theorem d_Mo_in_15 : decode prog_13_method_2_code 15 = .ok (.ireturn, 1) := by decide +kernel
theorem d_Mo_in_5 : decode prog_13_method_2_code 5 = .ok (.iload_n 0, 1) := by decide +kernel
theorem d_Mo_in_6 : decode prog_13_method_2_code 6 = .ok (.iload_n 2, 1) := by decide +kernel
theorem d_Mo_in_10 : decode prog_13_method_2_code 10 = .ok (.iconst 1, 1) := by decide +kernel
theorem d_Mo_in_11 : decode prog_13_method_2_code 11 = .ok (.goto 4, 3) := by decide +kernel
theorem d_Mo_in_7 : decode prog_13_method_2_code 7 = .ok (.if_icmp .gt 7, 3) := by decide +kernel
theorem d_Mo_in_2 : decode prog_13_method_2_code 2 = .ok (.if_icmp .lt 12, 3) := by decide +kernel
def f_Mo_in (a0 : Int32) (a1 : Int32) (a2 : Int32) : Option (Int32) :=
  if a0 < a1 then
    (some 0)
  else
    (if a2 < a0 then
      (some 0)
    else
      (some 1))
set_option maxHeartbeats 4000000 in
set_option maxRecDepth 20000 in
theorem c_Mo_in (Z : ZX) {σ : Mem} {a0 : Int32} {a1 : Int32} {a2 : Int32} {r : Int32} (h : f_Mo_in a0 a1 a2 = some r) : CI Z 0 m_Mo_in [.int a0, .int a1, .int a2] σ r σ := by
  refine Ct.of (by decide +kernel) (Nat.le_of_ble_eq_true rfl) (fun Y => ?_)
  show V (mkB Z) Y m_Mo_in 0 (QP (mkB Z) Y nC 0 0 (fun v t => v = some (.int r) ∧ t = σ)) 0 0 nC σ 0 [(0, .int a0), (1, .int a1), (2, .int a2)] []
  unfold f_Mo_in at h
  refine V.iload_n d_Mo_in_0 rfl 0 rfl ?_
  refine V.iload_n d_Mo_in_1 rfl 1 rfl ?_
  refine V.icmp_lt (tgt := 14) d_Mo_in_2 (by decide) (fun hc2 => ?_) (fun hc2 => ?_)
  · replace h := ite_t hc2 h
    refine V.iconst (v := 0) d_Mo_in_14 (by decide) ?_
    cases h
    exact V.zret rfl rfl d_Mo_in_15 ⟨rfl, rfl⟩
  · replace h := ite_f hc2 h
    refine V.iload_n d_Mo_in_5 rfl 0 rfl ?_
    refine V.iload_n d_Mo_in_6 rfl 2 rfl ?_
    refine V.icmp_gt (tgt := 14) d_Mo_in_7 (by decide) (fun hc7 => ?_) (fun hc7 => ?_)
    · replace h := ite_t hc7 h
      refine V.iconst (v := 0) d_Mo_in_14 (by decide) ?_
      cases h
      exact V.zret rfl rfl d_Mo_in_15 ⟨rfl, rfl⟩
    · replace h := ite_f hc7 h
      refine V.iconst (v := 1) d_Mo_in_10 (by decide) ?_
      refine V.goto (tgt := 15) d_Mo_in_11 (by decide) ?_
      cases h
      exact V.zret rfl rfl d_Mo_in_15 ⟨rfl, rfl⟩
abbrev m_Mo_here : MI := (⟨"ShadeTownModel", "here", "()I"⟩, prog_13_method_25_code, 1, (Option.some Jvm.ClassFile.FieldType.int))
theorem d_Mo_here_0 : decode prog_13_method_25_code 0 = .ok (.aload_n 0, 1) := by decide +kernel
theorem fl_Mo_212 : FL "ShadeTownModel" 212 T_Mo 12 := atG 1344 (by decide +kernel) rfl
theorem d_Mo_here_1 : decode prog_13_method_25_code 1 = .ok (.getfield 212, 3) := by decide +kernel
theorem d_Mo_here_4 : decode prog_13_method_25_code 4 = .ok (.aload_n 0, 1) := by decide +kernel
theorem fl_Mo_215 : FL "ShadeTownModel" 215 T_Mo 13 := atG 1345 (by decide +kernel) rfl
theorem d_Mo_here_5 : decode prog_13_method_25_code 5 = .ok (.getfield 215, 3) := by decide +kernel
theorem d_Mo_here_27 : decode prog_13_method_25_code 27 = .ok (.iconst (-1), 1) := by decide +kernel
theorem d_Mo_here_28 : decode prog_13_method_25_code 28 = .ok (.ireturn, 1) := by decide +kernel
theorem d_Mo_here_11 : decode prog_13_method_25_code 11 = .ok (.aload_n 0, 1) := by decide +kernel
theorem d_Mo_here_12 : decode prog_13_method_25_code 12 = .ok (.getfield 28, 3) := by decide +kernel
theorem d_Mo_here_15 : decode prog_13_method_25_code 15 = .ok (.aload_n 0, 1) := by decide +kernel
theorem d_Mo_here_16 : decode prog_13_method_25_code 16 = .ok (.getfield 212, 3) := by decide +kernel
theorem d_Mo_here_19 : decode prog_13_method_25_code 19 = .ok (.baload, 1) := by decide +kernel
theorem d_Mo_here_20 : decode prog_13_method_25_code 20 = .ok (.sipush 255, 3) := by decide +kernel
theorem d_Mo_here_23 : decode prog_13_method_25_code 23 = .ok (.iand, 1) := by decide +kernel
theorem d_Mo_here_24 : decode prog_13_method_25_code 24 = .ok (.goto 4, 3) := by decide +kernel
theorem d_Mo_here_8 : decode prog_13_method_25_code 8 = .ok (.if_icmp .ge 19, 3) := by decide +kernel
def f_Mo_here (σ : Mem) : Option (Int32) :=
  if (mI σ 65 13) ≤ (mI σ 65 12) then
    (some (-1))
  else
    (grd (inb (mI σ 65 12) 260) <|
    some ((mI σ 72 ((mI σ 65 12).toNatClampNeg)) &&& 255))
set_option maxHeartbeats 4000000 in
set_option maxRecDepth 20000 in
theorem c_Mo_here (Z : ZX) {σ : Mem} {r : Int32} (h : f_Mo_here σ = some r) : CI Z 0 m_Mo_here [rf Z 65] σ r σ := by
  refine Ct.of (by decide +kernel) (Nat.le_of_ble_eq_true rfl) (fun Y => ?_)
  show V (mkB Z) Y m_Mo_here 0 (QP (mkB Z) Y nC 0 0 (fun v t => v = some (.int r) ∧ t = σ)) 0 0 nC σ 0 [(0, rf Z 65)] []
  unfold f_Mo_here at h
  refine V.aload_n d_Mo_here_0 rfl 0 rfl ?_
  refine V.getI ok_Mo fl_Mo_212 (by decide) (by decide) ly_65 rfl d_Mo_here_1 ?_
  refine V.aload_n d_Mo_here_4 rfl 0 rfl ?_
  refine V.getI ok_Mo fl_Mo_215 (by decide) (by decide) ly_65 rfl d_Mo_here_5 ?_
  refine V.icmp_ge (tgt := 27) d_Mo_here_8 (by decide) (fun hc8 => ?_) (fun hc8 => ?_)
  · replace h := ite_t hc8 h
    refine V.iconst (v := (-1)) d_Mo_here_27 (by decide) ?_
    cases h
    exact V.iret rfl d_Mo_here_28 ⟨rfl, rfl⟩
  · replace h := ite_f hc8 h
    refine V.aload_n d_Mo_here_11 rfl 0 rfl ?_
    refine V.getR (r := 72) ok_Mo fl_Mo_28 (by decide) (by decide) ly_65 rfl d_Mo_here_12 ?_
    refine V.aload_n d_Mo_here_15 rfl 0 rfl ?_
    refine V.getI ok_Mo fl_Mo_212 (by decide) (by decide) ly_65 rfl d_Mo_here_16 ?_
    obtain ⟨gq, h⟩ := grd_e h
    refine V.rb (by decide) ly_72 (inb_e gq) rfl d_Mo_here_19 ?_
    refine V.sipush (v := 255) d_Mo_here_20 (by decide) ?_
    refine V.iand d_Mo_here_23 ?_
    refine V.goto (tgt := 28) d_Mo_here_24 (by decide) ?_
    cases h
    exact V.iret rfl d_Mo_here_28 ⟨rfl, rfl⟩
abbrev m_Mo_isClause : MI := (⟨"ShadeTownModel", "isClause", "(I)Z"⟩, prog_13_method_44_code, 1, (Option.some Jvm.ClassFile.FieldType.boolean))
theorem d_Mo_isClause_0 : decode prog_13_method_44_code 0 = .ok (.iload_n 0, 1) := by decide +kernel
theorem d_Mo_isClause_1 : decode prog_13_method_44_code 1 = .ok (.bipush 117, 2) := by decide +kernel
theorem d_Mo_isClause_42 : decode prog_13_method_44_code 42 = .ok (.iconst 1, 1) := by decide +kernel
theorem d_Mo_isClause_43 : decode prog_13_method_44_code 43 = .ok (.goto 4, 3) := by decide +kernel
theorem d_Mo_isClause_47 : decode prog_13_method_44_code 47 = .ok (.ireturn, 1) := by decide +kernel
theorem d_Mo_isClause_6 : decode prog_13_method_44_code 6 = .ok (.iload_n 0, 1) := by decide +kernel
theorem d_Mo_isClause_7 : decode prog_13_method_44_code 7 = .ok (.bipush 101, 2) := by decide +kernel
theorem d_Mo_isClause_12 : decode prog_13_method_44_code 12 = .ok (.iload_n 0, 1) := by decide +kernel
theorem d_Mo_isClause_13 : decode prog_13_method_44_code 13 = .ok (.bipush 110, 2) := by decide +kernel
theorem d_Mo_isClause_18 : decode prog_13_method_44_code 18 = .ok (.iload_n 0, 1) := by decide +kernel
theorem d_Mo_isClause_19 : decode prog_13_method_44_code 19 = .ok (.bipush 99, 2) := by decide +kernel
theorem d_Mo_isClause_24 : decode prog_13_method_44_code 24 = .ok (.iload_n 0, 1) := by decide +kernel
theorem d_Mo_isClause_25 : decode prog_13_method_44_code 25 = .ok (.bipush 112, 2) := by decide +kernel
theorem d_Mo_isClause_30 : decode prog_13_method_44_code 30 = .ok (.iload_n 0, 1) := by decide +kernel
theorem d_Mo_isClause_31 : decode prog_13_method_44_code 31 = .ok (.bipush 119, 2) := by decide +kernel
theorem d_Mo_isClause_36 : decode prog_13_method_44_code 36 = .ok (.iload_n 0, 1) := by decide +kernel
theorem d_Mo_isClause_37 : decode prog_13_method_44_code 37 = .ok (.bipush 103, 2) := by decide +kernel
theorem d_Mo_isClause_46 : decode prog_13_method_44_code 46 = .ok (.iconst 0, 1) := by decide +kernel
theorem d_Mo_isClause_39 : decode prog_13_method_44_code 39 = .ok (.if_icmp .ne 7, 3) := by decide +kernel
theorem d_Mo_isClause_33 : decode prog_13_method_44_code 33 = .ok (.if_icmp .eq 9, 3) := by decide +kernel
theorem d_Mo_isClause_27 : decode prog_13_method_44_code 27 = .ok (.if_icmp .eq 15, 3) := by decide +kernel
theorem d_Mo_isClause_21 : decode prog_13_method_44_code 21 = .ok (.if_icmp .eq 21, 3) := by decide +kernel
theorem d_Mo_isClause_15 : decode prog_13_method_44_code 15 = .ok (.if_icmp .eq 27, 3) := by decide +kernel
theorem d_Mo_isClause_9 : decode prog_13_method_44_code 9 = .ok (.if_icmp .eq 33, 3) := by decide +kernel
theorem d_Mo_isClause_3 : decode prog_13_method_44_code 3 = .ok (.if_icmp .eq 39, 3) := by decide +kernel
def f_Mo_isClause (a0 : Int32) : Option (Int32) :=
  if a0 = 117 then
    (some 1)
  else
    (if a0 = 101 then
      (some 1)
    else
      (if a0 = 110 then
        (some 1)
      else
        (if a0 = 99 then
          (some 1)
        else
          (if a0 = 112 then
            (some 1)
          else
            (if a0 = 119 then
              (some 1)
            else
              (if a0 = 103 then
                (some 1)
              else
                (some 0)))))))
set_option maxHeartbeats 4000000 in
set_option maxRecDepth 20000 in
theorem c_Mo_isClause (Z : ZX) {σ : Mem} {a0 : Int32} {r : Int32} (h : f_Mo_isClause a0 = some r) : CI Z 0 m_Mo_isClause [.int a0] σ r σ := by
  refine Ct.of (by decide +kernel) (Nat.le_of_ble_eq_true rfl) (fun Y => ?_)
  show V (mkB Z) Y m_Mo_isClause 0 (QP (mkB Z) Y nC 0 0 (fun v t => v = some (.int r) ∧ t = σ)) 0 0 nC σ 0 [(0, .int a0)] []
  unfold f_Mo_isClause at h
  refine V.iload_n d_Mo_isClause_0 rfl 0 rfl ?_
  refine V.bipush (v := 117) d_Mo_isClause_1 (by decide) ?_
  refine V.icmp_eq (tgt := 42) d_Mo_isClause_3 (by decide) (fun hc3 => ?_) (fun hc3 => ?_)
  · replace h := ite_t hc3 h
    refine V.iconst (v := 1) d_Mo_isClause_42 (by decide) ?_
    refine V.goto (tgt := 47) d_Mo_isClause_43 (by decide) ?_
    cases h
    exact V.zret rfl rfl d_Mo_isClause_47 ⟨rfl, rfl⟩
  · replace h := ite_f hc3 h
    refine V.iload_n d_Mo_isClause_6 rfl 0 rfl ?_
    refine V.bipush (v := 101) d_Mo_isClause_7 (by decide) ?_
    refine V.icmp_eq (tgt := 42) d_Mo_isClause_9 (by decide) (fun hc9 => ?_) (fun hc9 => ?_)
    · replace h := ite_t hc9 h
      refine V.iconst (v := 1) d_Mo_isClause_42 (by decide) ?_
      refine V.goto (tgt := 47) d_Mo_isClause_43 (by decide) ?_
      cases h
      exact V.zret rfl rfl d_Mo_isClause_47 ⟨rfl, rfl⟩
    · replace h := ite_f hc9 h
      refine V.iload_n d_Mo_isClause_12 rfl 0 rfl ?_
      refine V.bipush (v := 110) d_Mo_isClause_13 (by decide) ?_
      refine V.icmp_eq (tgt := 42) d_Mo_isClause_15 (by decide) (fun hc15 => ?_) (fun hc15 => ?_)
      · replace h := ite_t hc15 h
        refine V.iconst (v := 1) d_Mo_isClause_42 (by decide) ?_
        refine V.goto (tgt := 47) d_Mo_isClause_43 (by decide) ?_
        cases h
        exact V.zret rfl rfl d_Mo_isClause_47 ⟨rfl, rfl⟩
      · replace h := ite_f hc15 h
        refine V.iload_n d_Mo_isClause_18 rfl 0 rfl ?_
        refine V.bipush (v := 99) d_Mo_isClause_19 (by decide) ?_
        refine V.icmp_eq (tgt := 42) d_Mo_isClause_21 (by decide) (fun hc21 => ?_) (fun hc21 => ?_)
        · replace h := ite_t hc21 h
          refine V.iconst (v := 1) d_Mo_isClause_42 (by decide) ?_
          refine V.goto (tgt := 47) d_Mo_isClause_43 (by decide) ?_
          cases h
          exact V.zret rfl rfl d_Mo_isClause_47 ⟨rfl, rfl⟩
        · replace h := ite_f hc21 h
          refine V.iload_n d_Mo_isClause_24 rfl 0 rfl ?_
          refine V.bipush (v := 112) d_Mo_isClause_25 (by decide) ?_
          refine V.icmp_eq (tgt := 42) d_Mo_isClause_27 (by decide) (fun hc27 => ?_) (fun hc27 => ?_)
          · replace h := ite_t hc27 h
            refine V.iconst (v := 1) d_Mo_isClause_42 (by decide) ?_
            refine V.goto (tgt := 47) d_Mo_isClause_43 (by decide) ?_
            cases h
            exact V.zret rfl rfl d_Mo_isClause_47 ⟨rfl, rfl⟩
          · replace h := ite_f hc27 h
            refine V.iload_n d_Mo_isClause_30 rfl 0 rfl ?_
            refine V.bipush (v := 119) d_Mo_isClause_31 (by decide) ?_
            refine V.icmp_eq (tgt := 42) d_Mo_isClause_33 (by decide) (fun hc33 => ?_) (fun hc33 => ?_)
            · replace h := ite_t hc33 h
              refine V.iconst (v := 1) d_Mo_isClause_42 (by decide) ?_
              refine V.goto (tgt := 47) d_Mo_isClause_43 (by decide) ?_
              cases h
              exact V.zret rfl rfl d_Mo_isClause_47 ⟨rfl, rfl⟩
            · replace h := ite_f hc33 h
              refine V.iload_n d_Mo_isClause_36 rfl 0 rfl ?_
              refine V.bipush (v := 103) d_Mo_isClause_37 (by decide) ?_
              refine V.icmp_ne (tgt := 46) d_Mo_isClause_39 (by decide) (fun hc39 => ?_) (fun hc39 => ?_)
              · replace h := ite_f hc39 h
                refine V.iconst (v := 0) d_Mo_isClause_46 (by decide) ?_
                cases h
                exact V.zret rfl rfl d_Mo_isClause_47 ⟨rfl, rfl⟩
              · replace h := ite_t hc39 h
                refine V.iconst (v := 1) d_Mo_isClause_42 (by decide) ?_
                refine V.goto (tgt := 47) d_Mo_isClause_43 (by decide) ?_
                cases h
                exact V.zret rfl rfl d_Mo_isClause_47 ⟨rfl, rfl⟩
abbrev m_Mo_wrongAt : MI := (⟨"ShadeTownModel", "wrongAt", "(II)Z"⟩, prog_13_method_27_code, 3, (Option.some Jvm.ClassFile.FieldType.boolean))
theorem d_Mo_wrongAt_0 : decode prog_13_method_27_code 0 = .ok (.aload_n 0, 1) := by decide +kernel
theorem d_Mo_wrongAt_1 : decode prog_13_method_27_code 1 = .ok (.sipush (-1000), 3) := by decide +kernel
theorem d_Mo_wrongAt_4 : decode prog_13_method_27_code 4 = .ok (.iload_n 1, 1) := by decide +kernel
theorem d_Mo_wrongAt_5 : decode prog_13_method_27_code 5 = .ok (.imul, 1) := by decide +kernel
theorem d_Mo_wrongAt_6 : decode prog_13_method_27_code 6 = .ok (.iload_n 2, 1) := by decide +kernel
theorem d_Mo_wrongAt_7 : decode prog_13_method_27_code 7 = .ok (.isub, 1) := by decide +kernel
theorem fl_Mo_222 : FL "ShadeTownModel" 222 T_Mo 14 := atG 1346 (by decide +kernel) rfl
theorem d_Mo_wrongAt_8 : decode prog_13_method_27_code 8 = .ok (.putfield 222, 3) := by decide +kernel
theorem d_Mo_wrongAt_11 : decode prog_13_method_27_code 11 = .ok (.iconst 0, 1) := by decide +kernel
theorem d_Mo_wrongAt_12 : decode prog_13_method_27_code 12 = .ok (.ireturn, 1) := by decide +kernel
def f_Mo_wrongAt (σ : Mem) (a1 : Int32) (a2 : Int32) : Option (Int32 × Mem) :=
  letv (sI σ 65 14 (((-1000) * a1) - a2)) fun σ8 =>
  some (0, σ8)
set_option maxHeartbeats 4000000 in
set_option maxRecDepth 20000 in
theorem c_Mo_wrongAt (Z : ZX) {σ : Mem} {a1 : Int32} {a2 : Int32} {r : Int32} {σ' : Mem} (h : f_Mo_wrongAt σ a1 a2 = some (r, σ')) : CI Z 0 m_Mo_wrongAt [rf Z 65, .int a1, .int a2] σ r σ' := by
  refine Ct.of (by decide +kernel) (Nat.le_of_ble_eq_true rfl) (fun Y => ?_)
  show V (mkB Z) Y m_Mo_wrongAt 0 (QP (mkB Z) Y nC 0 0 (fun v t => v = some (.int r) ∧ t = σ')) 0 0 nC σ 0 [(0, rf Z 65), (1, .int a1), (2, .int a2)] []
  unfold f_Mo_wrongAt at h
  refine V.aload_n d_Mo_wrongAt_0 rfl 0 rfl ?_
  refine V.sipush (v := (-1000)) d_Mo_wrongAt_1 (by decide) ?_
  refine V.iload_n d_Mo_wrongAt_4 rfl 1 rfl ?_
  refine V.imul d_Mo_wrongAt_5 ?_
  refine V.iload_n d_Mo_wrongAt_6 rfl 2 rfl ?_
  refine V.isub d_Mo_wrongAt_7 ?_
  obtain ⟨σ8, e_σ8, h⟩ := letv_e h
  refine V.putI ok_Mo fl_Mo_222 (by decide) (by decide) ly_65 rfl rfl rfl rfl d_Mo_wrongAt_8 (V.mem e_σ8 ?_)
  refine V.iconst (v := 0) d_Mo_wrongAt_11 (by decide) ?_
  cases h
  exact V.zret rfl rfl d_Mo_wrongAt_12 ⟨rfl, rfl⟩
abbrev m_Mo_opens : MI := (⟨"ShadeTownModel", "opens", "(I)Z"⟩, prog_13_method_31_code, 2, (Option.some Jvm.ClassFile.FieldType.boolean))
theorem d_Mo_opens_0 : decode prog_13_method_31_code 0 = .ok (.aload_n 0, 1) := by decide +kernel
theorem fl_Mo_239 : FL "ShadeTownModel" 239 T_Mo 15 := atG 1347 (by decide +kernel) rfl
theorem d_Mo_opens_1 : decode prog_13_method_31_code 1 = .ok (.getfield 239, 3) := by decide +kernel
theorem d_Mo_opens_4 : decode prog_13_method_31_code 4 = .ok (.bipush 6, 2) := by decide +kernel
theorem d_Mo_opens_19 : decode prog_13_method_31_code 19 = .ok (.aload_n 0, 1) := by decide +kernel
theorem d_Mo_opens_20 : decode prog_13_method_31_code 20 = .ok (.aload_n 0, 1) := by decide +kernel
theorem d_Mo_opens_21 : decode prog_13_method_31_code 21 = .ok (.getfield 239, 3) := by decide +kernel
theorem d_Mo_opens_24 : decode prog_13_method_31_code 24 = .ok (.iconst 1, 1) := by decide +kernel
theorem d_Mo_opens_25 : decode prog_13_method_31_code 25 = .ok (.iadd, 1) := by decide +kernel
theorem d_Mo_opens_26 : decode prog_13_method_31_code 26 = .ok (.putfield 239, 3) := by decide +kernel
theorem d_Mo_opens_29 : decode prog_13_method_31_code 29 = .ok (.aload_n 0, 1) := by decide +kernel
theorem fl_Mo_35 : FL "ShadeTownModel" 35 T_Mo 22 := atG 1354 (by decide +kernel) rfl
theorem d_Mo_opens_30 : decode prog_13_method_31_code 30 = .ok (.getfield 35, 3) := by decide +kernel
theorem d_Mo_opens_33 : decode prog_13_method_31_code 33 = .ok (.aload_n 0, 1) := by decide +kernel
theorem fl_Mo_242 : FL "ShadeTownModel" 242 T_Mo 17 := atG 1349 (by decide +kernel) rfl
theorem d_Mo_opens_34 : decode prog_13_method_31_code 34 = .ok (.getfield 242, 3) := by decide +kernel
theorem kc_Mo_238 : Cond.constant "ShadeTownModel" 238 (1048576) ∈ tblG := atG 1662 (by decide +kernel) rfl
theorem d_Mo_opens_37 : decode prog_13_method_31_code 37 = .ok (.ldc 238, 2) := by decide +kernel
theorem d_Mo_opens_39 : decode prog_13_method_31_code 39 = .ok (.iload_n 1, 1) := by decide +kernel
theorem d_Mo_opens_40 : decode prog_13_method_31_code 40 = .ok (.imul, 1) := by decide +kernel
theorem d_Mo_opens_41 : decode prog_13_method_31_code 41 = .ok (.iastore, 1) := by decide +kernel
theorem d_Mo_opens_42 : decode prog_13_method_31_code 42 = .ok (.aload_n 0, 1) := by decide +kernel
theorem d_Mo_opens_43 : decode prog_13_method_31_code 43 = .ok (.aload_n 0, 1) := by decide +kernel
theorem d_Mo_opens_44 : decode prog_13_method_31_code 44 = .ok (.getfield 242, 3) := by decide +kernel
theorem d_Mo_opens_47 : decode prog_13_method_31_code 47 = .ok (.iconst 1, 1) := by decide +kernel
theorem d_Mo_opens_48 : decode prog_13_method_31_code 48 = .ok (.iadd, 1) := by decide +kernel
theorem d_Mo_opens_49 : decode prog_13_method_31_code 49 = .ok (.putfield 242, 3) := by decide +kernel
theorem d_Mo_opens_52 : decode prog_13_method_31_code 52 = .ok (.aload_n 0, 1) := by decide +kernel
theorem d_Mo_opens_53 : decode prog_13_method_31_code 53 = .ok (.aload_n 0, 1) := by decide +kernel
theorem d_Mo_opens_54 : decode prog_13_method_31_code 54 = .ok (.getfield 212, 3) := by decide +kernel
theorem d_Mo_opens_57 : decode prog_13_method_31_code 57 = .ok (.iconst 1, 1) := by decide +kernel
theorem d_Mo_opens_58 : decode prog_13_method_31_code 58 = .ok (.iadd, 1) := by decide +kernel
theorem d_Mo_opens_59 : decode prog_13_method_31_code 59 = .ok (.putfield 212, 3) := by decide +kernel
theorem d_Mo_opens_62 : decode prog_13_method_31_code 62 = .ok (.iconst 1, 1) := by decide +kernel
theorem d_Mo_opens_63 : decode prog_13_method_31_code 63 = .ok (.ireturn, 1) := by decide +kernel
theorem d_Mo_opens_9 : decode prog_13_method_31_code 9 = .ok (.aload_n 0, 1) := by decide +kernel
theorem d_Mo_opens_10 : decode prog_13_method_31_code 10 = .ok (.iconst 5, 1) := by decide +kernel
theorem d_Mo_opens_11 : decode prog_13_method_31_code 11 = .ok (.aload_n 0, 1) := by decide +kernel
theorem d_Mo_opens_12 : decode prog_13_method_31_code 12 = .ok (.getfield 212, 3) := by decide +kernel
theorem d_Mo_opens_15 : decode prog_13_method_31_code 15 = .ok (.invokevirtual 225, 3) := by decide +kernel
theorem k_Mo_wrongAt : MOk m_Mo_wrongAt 2 ∧ IOk m_Mo_wrongAt := ⟨⟨atG 1649 (by decide +kernel) rfl, atG 122 (by decide +kernel) rfl, ⟨by decide, by decide⟩, by decide +kernel, by decide⟩, atG 1648 (by decide +kernel) rfl, atG 50 (by decide +kernel) rfl⟩
theorem lk_Mo_225 : Cond.methodLink "ShadeTownModel" 225 ⟨"ShadeTownModel", "wrongAt", "(II)Z"⟩ ∈ tblG := atG 1646 (by decide +kernel) rfl
theorem d_Mo_opens_18 : decode prog_13_method_31_code 18 = .ok (.ireturn, 1) := by decide +kernel
theorem d_Mo_opens_6 : decode prog_13_method_31_code 6 = .ok (.if_icmp .ne 13, 3) := by decide +kernel
def f_Mo_opens (σ : Mem) (a1 : Int32) : Option (Int32 × Mem) :=
  if (mI σ 65 15) = 6 then
    (bnd2 (f_Mo_wrongAt σ 5 (mI σ 65 12)) fun r15 σ15 =>
    grd (decide (r15 &&& 1 = r15)) (some (r15, σ15)))
  else
    (letv (sI σ 65 15 ((mI σ 65 15) + 1)) fun σ26 =>
    grd (inb (mI σ26 65 17) 260) <|
    letv (sI σ26 74 ((mI σ26 65 17).toNatClampNeg) (1048576 * a1)) fun σ41 =>
    letv (sI σ41 65 17 ((mI σ41 65 17) + 1)) fun σ49 =>
    letv (sI σ49 65 12 ((mI σ49 65 12) + 1)) fun σ59 =>
    some (1, σ59))
set_option maxHeartbeats 4000000 in
set_option maxRecDepth 20000 in
theorem c_Mo_opens (Z : ZX) {σ : Mem} {a1 : Int32} {r : Int32} {σ' : Mem} (h : f_Mo_opens σ a1 = some (r, σ')) : CI Z 1 m_Mo_opens [rf Z 65, .int a1] σ r σ' := by
  refine Ct.of (by decide +kernel) (Nat.le_of_ble_eq_true rfl) (fun Y => ?_)
  show V (mkB Z) Y m_Mo_opens 1 (QP (mkB Z) Y nC 0 0 (fun v t => v = some (.int r) ∧ t = σ')) 0 0 nC σ 0 [(0, rf Z 65), (1, .int a1)] []
  unfold f_Mo_opens at h
  refine V.aload_n d_Mo_opens_0 rfl 0 rfl ?_
  refine V.getI ok_Mo fl_Mo_239 (by decide) (by decide) ly_65 rfl d_Mo_opens_1 ?_
  refine V.bipush (v := 6) d_Mo_opens_4 (by decide) ?_
  refine V.icmp_ne (tgt := 19) d_Mo_opens_6 (by decide) (fun hc6 => ?_) (fun hc6 => ?_)
  · replace h := ite_f hc6 h
    refine V.aload_n d_Mo_opens_19 rfl 0 rfl ?_
    refine V.aload_n d_Mo_opens_20 rfl 0 rfl ?_
    refine V.getI ok_Mo fl_Mo_239 (by decide) (by decide) ly_65 rfl d_Mo_opens_21 ?_
    refine V.iconst (v := 1) d_Mo_opens_24 (by decide) ?_
    refine V.iadd d_Mo_opens_25 ?_
    obtain ⟨σ26, e_σ26, h⟩ := letv_e h
    refine V.putI ok_Mo fl_Mo_239 (by decide) (by decide) ly_65 rfl rfl rfl rfl d_Mo_opens_26 (V.mem e_σ26 ?_)
    refine V.aload_n d_Mo_opens_29 rfl 0 rfl ?_
    refine V.getR (r := 74) ok_Mo fl_Mo_35 (by decide) (by decide) ly_65 rfl d_Mo_opens_30 ?_
    refine V.aload_n d_Mo_opens_33 rfl 0 rfl ?_
    refine V.getI ok_Mo fl_Mo_242 (by decide) (by decide) ly_65 rfl d_Mo_opens_34 ?_
    refine V.ldc (v := 1048576) kc_Mo_238 d_Mo_opens_37 ?_
    refine V.iload_n d_Mo_opens_39 rfl 1 rfl ?_
    refine V.imul d_Mo_opens_40 ?_
    obtain ⟨gq, h⟩ := grd_e h
    obtain ⟨σ41, e_σ41, h⟩ := letv_e h
    refine V.wa (by decide) ly_74 (inb_e gq) rfl d_Mo_opens_41 e_σ41 ?_
    refine V.aload_n d_Mo_opens_42 rfl 0 rfl ?_
    refine V.aload_n d_Mo_opens_43 rfl 0 rfl ?_
    refine V.getI ok_Mo fl_Mo_242 (by decide) (by decide) ly_65 rfl d_Mo_opens_44 ?_
    refine V.iconst (v := 1) d_Mo_opens_47 (by decide) ?_
    refine V.iadd d_Mo_opens_48 ?_
    obtain ⟨σ49, e_σ49, h⟩ := letv_e h
    refine V.putI ok_Mo fl_Mo_242 (by decide) (by decide) ly_65 rfl rfl rfl rfl d_Mo_opens_49 (V.mem e_σ49 ?_)
    refine V.aload_n d_Mo_opens_52 rfl 0 rfl ?_
    refine V.aload_n d_Mo_opens_53 rfl 0 rfl ?_
    refine V.getI ok_Mo fl_Mo_212 (by decide) (by decide) ly_65 rfl d_Mo_opens_54 ?_
    refine V.iconst (v := 1) d_Mo_opens_57 (by decide) ?_
    refine V.iadd d_Mo_opens_58 ?_
    obtain ⟨σ59, e_σ59, h⟩ := letv_e h
    refine V.putI ok_Mo fl_Mo_212 (by decide) (by decide) ly_65 rfl rfl rfl rfl d_Mo_opens_59 (V.mem e_σ59 ?_)
    refine V.iconst (v := 1) d_Mo_opens_62 (by decide) ?_
    cases h
    exact V.zret rfl rfl d_Mo_opens_63 ⟨rfl, rfl⟩
  · replace h := ite_t hc6 h
    refine V.aload_n d_Mo_opens_9 rfl 0 rfl ?_
    refine V.iconst (v := 5) d_Mo_opens_10 (by decide) ?_
    refine V.aload_n d_Mo_opens_11 rfl 0 rfl ?_
    refine V.getI ok_Mo fl_Mo_212 (by decide) (by decide) ly_65 rfl d_Mo_opens_12 ?_
    obtain ⟨r15, σ15, h1, h⟩ := bnd2_e h
    refine V.vI (as := [.int 5, .int (mI σ 65 12)]) (st := []) (c_Mo_wrongAt Z h1) k_Mo_wrongAt lk_Mo_225 (by decide) rfl (by decide) ly_65 ok_Mo.1 rfl (Nat.le_of_ble_eq_true rfl) d_Mo_opens_15 ?_
    obtain ⟨hz, h⟩ := grd_e h
    have hz := congrArg Value.int (of_decide_eq_true hz)
    cases h
    exact V.zret rfl hz d_Mo_opens_18 ⟨rfl, rfl⟩
abbrev m_Mo_isDigit : MI := (⟨"ShadeTownModel", "isDigit", "()Z"⟩, prog_13_method_26_code, 1, (Option.some Jvm.ClassFile.FieldType.boolean))
theorem d_Mo_isDigit_0 : decode prog_13_method_26_code 0 = .ok (.aload_n 0, 1) := by decide +kernel
theorem d_Mo_isDigit_1 : decode prog_13_method_26_code 1 = .ok (.invokevirtual 218, 3) := by decide +kernel
theorem k_Mo_here : MOk m_Mo_here 0 ∧ IOk m_Mo_here := ⟨⟨atG 1642 (by decide +kernel) rfl, atG 122 (by decide +kernel) rfl, ⟨by decide, by decide⟩, by decide +kernel, by decide⟩, atG 1641 (by decide +kernel) rfl, atG 49 (by decide +kernel) rfl⟩
theorem lk_Mo_218 : Cond.methodLink "ShadeTownModel" 218 ⟨"ShadeTownModel", "here", "()I"⟩ ∈ tblG := atG 1639 (by decide +kernel) rfl
theorem d_Mo_isDigit_4 : decode prog_13_method_26_code 4 = .ok (.bipush 48, 2) := by decide +kernel
theorem d_Mo_isDigit_22 : decode prog_13_method_26_code 22 = .ok (.iconst 0, 1) := by decide +kernel
theorem d_Mo_isDigit_23 : decode prog_13_method_26_code 23 = .ok (.ireturn, 1) := by decide +kernel
theorem d_Mo_isDigit_9 : decode prog_13_method_26_code 9 = .ok (.aload_n 0, 1) := by decide +kernel
theorem d_Mo_isDigit_10 : decode prog_13_method_26_code 10 = .ok (.invokevirtual 218, 3) := by decide +kernel
theorem d_Mo_isDigit_13 : decode prog_13_method_26_code 13 = .ok (.bipush 57, 2) := by decide +kernel
theorem d_Mo_isDigit_18 : decode prog_13_method_26_code 18 = .ok (.iconst 1, 1) := by decide +kernel
theorem d_Mo_isDigit_19 : decode prog_13_method_26_code 19 = .ok (.goto 4, 3) := by decide +kernel
theorem d_Mo_isDigit_15 : decode prog_13_method_26_code 15 = .ok (.if_icmp .gt 7, 3) := by decide +kernel
theorem d_Mo_isDigit_6 : decode prog_13_method_26_code 6 = .ok (.if_icmp .lt 16, 3) := by decide +kernel
def f_Mo_isDigit (σ : Mem) : Option (Int32) :=
  bnd1 (f_Mo_here σ) fun r1 =>
  if r1 < 48 then
    (some 0)
  else
    (bnd1 (f_Mo_here σ) fun r10 =>
    if 57 < r10 then
      (some 0)
    else
      (some 1))
set_option maxHeartbeats 4000000 in
set_option maxRecDepth 20000 in
theorem c_Mo_isDigit (Z : ZX) {σ : Mem} {r : Int32} (h : f_Mo_isDigit σ = some r) : CI Z 1 m_Mo_isDigit [rf Z 65] σ r σ := by
  refine Ct.of (by decide +kernel) (Nat.le_of_ble_eq_true rfl) (fun Y => ?_)
  show V (mkB Z) Y m_Mo_isDigit 1 (QP (mkB Z) Y nC 0 0 (fun v t => v = some (.int r) ∧ t = σ)) 0 0 nC σ 0 [(0, rf Z 65)] []
  unfold f_Mo_isDigit at h
  refine V.aload_n d_Mo_isDigit_0 rfl 0 rfl ?_
  obtain ⟨r1, h1, h⟩ := bnd1_e h
  refine V.vI (as := []) (st := []) (c_Mo_here Z h1) k_Mo_here lk_Mo_218 (by decide) rfl (by decide) ly_65 ok_Mo.1 rfl (Nat.le_of_ble_eq_true rfl) d_Mo_isDigit_1 ?_
  refine V.bipush (v := 48) d_Mo_isDigit_4 (by decide) ?_
  refine V.icmp_lt (tgt := 22) d_Mo_isDigit_6 (by decide) (fun hc6 => ?_) (fun hc6 => ?_)
  · replace h := ite_t hc6 h
    refine V.iconst (v := 0) d_Mo_isDigit_22 (by decide) ?_
    cases h
    exact V.zret rfl rfl d_Mo_isDigit_23 ⟨rfl, rfl⟩
  · replace h := ite_f hc6 h
    refine V.aload_n d_Mo_isDigit_9 rfl 0 rfl ?_
    obtain ⟨r10, h1, h⟩ := bnd1_e h
    refine V.vI (as := []) (st := []) (c_Mo_here Z h1) k_Mo_here lk_Mo_218 (by decide) rfl (by decide) ly_65 ok_Mo.1 rfl (Nat.le_of_ble_eq_true rfl) d_Mo_isDigit_10 ?_
    refine V.bipush (v := 57) d_Mo_isDigit_13 (by decide) ?_
    refine V.icmp_gt (tgt := 22) d_Mo_isDigit_15 (by decide) (fun hc15 => ?_) (fun hc15 => ?_)
    · replace h := ite_t hc15 h
      refine V.iconst (v := 0) d_Mo_isDigit_22 (by decide) ?_
      cases h
      exact V.zret rfl rfl d_Mo_isDigit_23 ⟨rfl, rfl⟩
    · replace h := ite_f hc15 h
      refine V.iconst (v := 1) d_Mo_isDigit_18 (by decide) ?_
      refine V.goto (tgt := 23) d_Mo_isDigit_19 (by decide) ?_
      cases h
      exact V.zret rfl rfl d_Mo_isDigit_23 ⟨rfl, rfl⟩
abbrev m_Mo_factOf : MI := (⟨"ShadeTownModel", "factOf", "(I)I"⟩, prog_13_method_33_code, 1, (Option.some Jvm.ClassFile.FieldType.int))
theorem d_Mo_factOf_0 : decode prog_13_method_33_code 0 = .ok (.iload_n 0, 1) := by decide +kernel
theorem d_Mo_factOf_116 : decode prog_13_method_33_code 116 = .ok (.bipush 6, 2) := by decide +kernel
theorem d_Mo_factOf_118 : decode prog_13_method_33_code 118 = .ok (.ireturn, 1) := by decide +kernel
theorem d_Mo_factOf_119 : decode prog_13_method_33_code 119 = .ok (.bipush 7, 2) := by decide +kernel
theorem d_Mo_factOf_121 : decode prog_13_method_33_code 121 = .ok (.ireturn, 1) := by decide +kernel
theorem d_Mo_factOf_114 : decode prog_13_method_33_code 114 = .ok (.iconst 5, 1) := by decide +kernel
theorem d_Mo_factOf_115 : decode prog_13_method_33_code 115 = .ok (.ireturn, 1) := by decide +kernel
theorem d_Mo_factOf_106 : decode prog_13_method_33_code 106 = .ok (.iconst 1, 1) := by decide +kernel
theorem d_Mo_factOf_107 : decode prog_13_method_33_code 107 = .ok (.ireturn, 1) := by decide +kernel
theorem d_Mo_factOf_122 : decode prog_13_method_33_code 122 = .ok (.bipush 8, 2) := by decide +kernel
theorem d_Mo_factOf_124 : decode prog_13_method_33_code 124 = .ok (.ireturn, 1) := by decide +kernel
theorem d_Mo_factOf_112 : decode prog_13_method_33_code 112 = .ok (.iconst 4, 1) := by decide +kernel
theorem d_Mo_factOf_113 : decode prog_13_method_33_code 113 = .ok (.ireturn, 1) := by decide +kernel
theorem d_Mo_factOf_104 : decode prog_13_method_33_code 104 = .ok (.iconst 0, 1) := by decide +kernel
theorem d_Mo_factOf_105 : decode prog_13_method_33_code 105 = .ok (.ireturn, 1) := by decide +kernel
theorem d_Mo_factOf_108 : decode prog_13_method_33_code 108 = .ok (.iconst 2, 1) := by decide +kernel
theorem d_Mo_factOf_109 : decode prog_13_method_33_code 109 = .ok (.ireturn, 1) := by decide +kernel
theorem d_Mo_factOf_110 : decode prog_13_method_33_code 110 = .ok (.iconst 3, 1) := by decide +kernel
theorem d_Mo_factOf_111 : decode prog_13_method_33_code 111 = .ok (.ireturn, 1) := by decide +kernel
theorem d_Mo_factOf_125 : decode prog_13_method_33_code 125 = .ok (.iconst (-1), 1) := by decide +kernel
theorem d_Mo_factOf_126 : decode prog_13_method_33_code 126 = .ok (.ireturn, 1) := by decide +kernel
theorem d_Mo_factOf_1 : decode prog_13_method_33_code 1 = .ok (.tableswitch 124 100 121 #[115, 124, 124, 124, 118, 113, 124, 124, 124, 105, 124, 121, 124, 124, 124, 111, 103, 124, 124, 124, 107, 109], 103) := by decide +kernel
def f_Mo_factOf (a0 : Int32) : Option (Int32) :=
  if a0 = 100 then
    (some 6)
  else
  if a0 = 104 then
    (some 7)
  else
  if a0 = 105 then
    (some 5)
  else
  if a0 = 109 then
    (some 1)
  else
  if a0 = 111 then
    (some 8)
  else
  if a0 = 115 then
    (some 4)
  else
  if a0 = 116 then
    (some 0)
  else
  if a0 = 120 then
    (some 2)
  else
  if a0 = 121 then
    (some 3)
  else
  (some (-1))
set_option maxHeartbeats 4000000 in
set_option maxRecDepth 20000 in
theorem c_Mo_factOf (Z : ZX) {σ : Mem} {a0 : Int32} {r : Int32} (h : f_Mo_factOf a0 = some r) : CI Z 0 m_Mo_factOf [.int a0] σ r σ := by
  refine Ct.of (by decide +kernel) (Nat.le_of_ble_eq_true rfl) (fun Y => ?_)
  show V (mkB Z) Y m_Mo_factOf 0 (QP (mkB Z) Y nC 0 0 (fun v t => v = some (.int r) ∧ t = σ)) 0 0 nC σ 0 [(0, .int a0)] []
  unfold f_Mo_factOf at h
  refine V.iload_n d_Mo_factOf_0 rfl 0 rfl ?_
  by_cases hs1_0 : a0 = 100
  · replace h := ite_t hs1_0 h
    refine V.tin (c := 100) (tgt := 116) d_Mo_factOf_1 hs1_0 (by decide) (by decide) rfl (by decide) ?_
    refine V.bipush (v := 6) d_Mo_factOf_116 (by decide) ?_
    cases h
    exact V.iret rfl d_Mo_factOf_118 ⟨rfl, rfl⟩
  · replace h := ite_f hs1_0 h
    by_cases hs1_1 : a0 = 104
    · replace h := ite_t hs1_1 h
      refine V.tin (c := 104) (tgt := 119) d_Mo_factOf_1 hs1_1 (by decide) (by decide) rfl (by decide) ?_
      refine V.bipush (v := 7) d_Mo_factOf_119 (by decide) ?_
      cases h
      exact V.iret rfl d_Mo_factOf_121 ⟨rfl, rfl⟩
    · replace h := ite_f hs1_1 h
      by_cases hs1_2 : a0 = 105
      · replace h := ite_t hs1_2 h
        refine V.tin (c := 105) (tgt := 114) d_Mo_factOf_1 hs1_2 (by decide) (by decide) rfl (by decide) ?_
        refine V.iconst (v := 5) d_Mo_factOf_114 (by decide) ?_
        cases h
        exact V.iret rfl d_Mo_factOf_115 ⟨rfl, rfl⟩
      · replace h := ite_f hs1_2 h
        by_cases hs1_3 : a0 = 109
        · replace h := ite_t hs1_3 h
          refine V.tin (c := 109) (tgt := 106) d_Mo_factOf_1 hs1_3 (by decide) (by decide) rfl (by decide) ?_
          refine V.iconst (v := 1) d_Mo_factOf_106 (by decide) ?_
          cases h
          exact V.iret rfl d_Mo_factOf_107 ⟨rfl, rfl⟩
        · replace h := ite_f hs1_3 h
          by_cases hs1_4 : a0 = 111
          · replace h := ite_t hs1_4 h
            refine V.tin (c := 111) (tgt := 122) d_Mo_factOf_1 hs1_4 (by decide) (by decide) rfl (by decide) ?_
            refine V.bipush (v := 8) d_Mo_factOf_122 (by decide) ?_
            cases h
            exact V.iret rfl d_Mo_factOf_124 ⟨rfl, rfl⟩
          · replace h := ite_f hs1_4 h
            by_cases hs1_5 : a0 = 115
            · replace h := ite_t hs1_5 h
              refine V.tin (c := 115) (tgt := 112) d_Mo_factOf_1 hs1_5 (by decide) (by decide) rfl (by decide) ?_
              refine V.iconst (v := 4) d_Mo_factOf_112 (by decide) ?_
              cases h
              exact V.iret rfl d_Mo_factOf_113 ⟨rfl, rfl⟩
            · replace h := ite_f hs1_5 h
              by_cases hs1_6 : a0 = 116
              · replace h := ite_t hs1_6 h
                refine V.tin (c := 116) (tgt := 104) d_Mo_factOf_1 hs1_6 (by decide) (by decide) rfl (by decide) ?_
                refine V.iconst (v := 0) d_Mo_factOf_104 (by decide) ?_
                cases h
                exact V.iret rfl d_Mo_factOf_105 ⟨rfl, rfl⟩
              · replace h := ite_f hs1_6 h
                by_cases hs1_7 : a0 = 120
                · replace h := ite_t hs1_7 h
                  refine V.tin (c := 120) (tgt := 108) d_Mo_factOf_1 hs1_7 (by decide) (by decide) rfl (by decide) ?_
                  refine V.iconst (v := 2) d_Mo_factOf_108 (by decide) ?_
                  cases h
                  exact V.iret rfl d_Mo_factOf_109 ⟨rfl, rfl⟩
                · replace h := ite_f hs1_7 h
                  by_cases hs1_8 : a0 = 121
                  · replace h := ite_t hs1_8 h
                    refine V.tin (c := 121) (tgt := 110) d_Mo_factOf_1 hs1_8 (by decide) (by decide) rfl (by decide) ?_
                    refine V.iconst (v := 3) d_Mo_factOf_110 (by decide) ?_
                    cases h
                    exact V.iret rfl d_Mo_factOf_111 ⟨rfl, rfl⟩
                  · replace h := ite_f hs1_8 h
                    refine V.tdef (tgt := 125) d_Mo_factOf_1 (fun i h1 h2 => ?_) (by decide) ?_
                    · rcases (show i = 100 ∨ i = 101 ∨ i = 102 ∨ i = 103 ∨ i = 104 ∨ i = 105 ∨ i = 106 ∨ i = 107 ∨ i = 108 ∨ i = 109 ∨ i = 110 ∨ i = 111 ∨ i = 112 ∨ i = 113 ∨ i = 114 ∨ i = 115 ∨ i = 116 ∨ i = 117 ∨ i = 118 ∨ i = 119 ∨ i = 120 ∨ i = 121 by omega) with rfl | rfl | rfl | rfl | rfl | rfl | rfl | rfl | rfl | rfl | rfl | rfl | rfl | rfl | rfl | rfl | rfl | rfl | rfl | rfl | rfl | rfl
                      · exact Or.inl (fun e => hs1_0 (e.trans (by decide)))
                      · exact Or.inr rfl
                      · exact Or.inr rfl
                      · exact Or.inr rfl
                      · exact Or.inl (fun e => hs1_1 (e.trans (by decide)))
                      · exact Or.inl (fun e => hs1_2 (e.trans (by decide)))
                      · exact Or.inr rfl
                      · exact Or.inr rfl
                      · exact Or.inr rfl
                      · exact Or.inl (fun e => hs1_3 (e.trans (by decide)))
                      · exact Or.inr rfl
                      · exact Or.inl (fun e => hs1_4 (e.trans (by decide)))
                      · exact Or.inr rfl
                      · exact Or.inr rfl
                      · exact Or.inr rfl
                      · exact Or.inl (fun e => hs1_5 (e.trans (by decide)))
                      · exact Or.inl (fun e => hs1_6 (e.trans (by decide)))
                      · exact Or.inr rfl
                      · exact Or.inr rfl
                      · exact Or.inr rfl
                      · exact Or.inl (fun e => hs1_7 (e.trans (by decide)))
                      · exact Or.inl (fun e => hs1_8 (e.trans (by decide)))
                    · refine V.iconst (v := (-1)) d_Mo_factOf_125 (by decide) ?_
                      cases h
                      exact V.iret rfl d_Mo_factOf_126 ⟨rfl, rfl⟩
abbrev m_Mo_notes : MI := (⟨"ShadeTownModel", "notes", "(II)V"⟩, prog_13_method_30_code, 3, (Option.none : Option Jvm.ClassFile.FieldType))
theorem d_Mo_notes_0 : decode prog_13_method_30_code 0 = .ok (.aload_n 0, 1) := by decide +kernel
theorem fl_Mo_32 : FL "ShadeTownModel" 32 T_Mo 21 := atG 1353 (by decide +kernel) rfl
theorem d_Mo_notes_1 : decode prog_13_method_30_code 1 = .ok (.getfield 32, 3) := by decide +kernel
theorem d_Mo_notes_4 : decode prog_13_method_30_code 4 = .ok (.aload_n 0, 1) := by decide +kernel
theorem fl_Mo_235 : FL "ShadeTownModel" 235 T_Mo 16 := atG 1348 (by decide +kernel) rfl
theorem d_Mo_notes_5 : decode prog_13_method_30_code 5 = .ok (.getfield 235, 3) := by decide +kernel
theorem d_Mo_notes_8 : decode prog_13_method_30_code 8 = .ok (.ldc 238, 2) := by decide +kernel
theorem d_Mo_notes_10 : decode prog_13_method_30_code 10 = .ok (.iload_n 1, 1) := by decide +kernel
theorem d_Mo_notes_11 : decode prog_13_method_30_code 11 = .ok (.imul, 1) := by decide +kernel
theorem d_Mo_notes_12 : decode prog_13_method_30_code 12 = .ok (.iload_n 2, 1) := by decide +kernel
theorem d_Mo_notes_13 : decode prog_13_method_30_code 13 = .ok (.iadd, 1) := by decide +kernel
theorem d_Mo_notes_14 : decode prog_13_method_30_code 14 = .ok (.iastore, 1) := by decide +kernel
theorem d_Mo_notes_15 : decode prog_13_method_30_code 15 = .ok (.aload_n 0, 1) := by decide +kernel
theorem d_Mo_notes_16 : decode prog_13_method_30_code 16 = .ok (.aload_n 0, 1) := by decide +kernel
theorem d_Mo_notes_17 : decode prog_13_method_30_code 17 = .ok (.getfield 235, 3) := by decide +kernel
theorem d_Mo_notes_20 : decode prog_13_method_30_code 20 = .ok (.iconst 1, 1) := by decide +kernel
theorem d_Mo_notes_21 : decode prog_13_method_30_code 21 = .ok (.iadd, 1) := by decide +kernel
theorem d_Mo_notes_22 : decode prog_13_method_30_code 22 = .ok (.putfield 235, 3) := by decide +kernel
theorem d_Mo_notes_25 : decode prog_13_method_30_code 25 = .ok (.return_, 1) := by decide +kernel
def f_Mo_notes (σ : Mem) (a1 : Int32) (a2 : Int32) : Option (Mem) :=
  grd (inb (mI σ 65 16) 260) <|
  letv (sI σ 73 ((mI σ 65 16).toNatClampNeg) ((1048576 * a1) + a2)) fun σ14 =>
  letv (sI σ14 65 16 ((mI σ14 65 16) + 1)) fun σ22 =>
  some σ22
set_option maxHeartbeats 4000000 in
set_option maxRecDepth 20000 in
theorem c_Mo_notes (Z : ZX) {σ : Mem} {a1 : Int32} {a2 : Int32} {σ' : Mem} (h : f_Mo_notes σ a1 a2 = some σ') : CN Z 0 m_Mo_notes [rf Z 65, .int a1, .int a2] σ σ' := by
  refine Ct.of (by decide +kernel) (Nat.le_of_ble_eq_true rfl) (fun Y => ?_)
  show V (mkB Z) Y m_Mo_notes 0 (QP (mkB Z) Y nC 0 0 (fun v t => v = none ∧ t = σ')) 0 0 nC σ 0 [(0, rf Z 65), (1, .int a1), (2, .int a2)] []
  unfold f_Mo_notes at h
  refine V.aload_n d_Mo_notes_0 rfl 0 rfl ?_
  refine V.getR (r := 73) ok_Mo fl_Mo_32 (by decide) (by decide) ly_65 rfl d_Mo_notes_1 ?_
  refine V.aload_n d_Mo_notes_4 rfl 0 rfl ?_
  refine V.getI ok_Mo fl_Mo_235 (by decide) (by decide) ly_65 rfl d_Mo_notes_5 ?_
  refine V.ldc (v := 1048576) kc_Mo_238 d_Mo_notes_8 ?_
  refine V.iload_n d_Mo_notes_10 rfl 1 rfl ?_
  refine V.imul d_Mo_notes_11 ?_
  refine V.iload_n d_Mo_notes_12 rfl 2 rfl ?_
  refine V.iadd d_Mo_notes_13 ?_
  obtain ⟨gq, h⟩ := grd_e h
  obtain ⟨σ14, e_σ14, h⟩ := letv_e h
  refine V.wa (by decide) ly_73 (inb_e gq) rfl d_Mo_notes_14 e_σ14 ?_
  refine V.aload_n d_Mo_notes_15 rfl 0 rfl ?_
  refine V.aload_n d_Mo_notes_16 rfl 0 rfl ?_
  refine V.getI ok_Mo fl_Mo_235 (by decide) (by decide) ly_65 rfl d_Mo_notes_17 ?_
  refine V.iconst (v := 1) d_Mo_notes_20 (by decide) ?_
  refine V.iadd d_Mo_notes_21 ?_
  obtain ⟨σ22, e_σ22, h⟩ := letv_e h
  refine V.putI ok_Mo fl_Mo_235 (by decide) (by decide) ly_65 rfl rfl rfl rfl d_Mo_notes_22 (V.mem e_σ22 ?_)
  cases h
  exact V.vret rfl d_Mo_notes_25 ⟨rfl, rfl⟩
abbrev m_Mo_readsNumber : MI := (⟨"ShadeTownModel", "readsNumber", "()Z"⟩, prog_13_method_29_code, 2, (Option.some Jvm.ClassFile.FieldType.boolean))
theorem d_Mo_readsNumber_0 : decode prog_13_method_29_code 0 = .ok (.aload_n 0, 1) := by decide +kernel
theorem d_Mo_readsNumber_1 : decode prog_13_method_29_code 1 = .ok (.getfield 212, 3) := by decide +kernel
theorem d_Mo_readsNumber_4 : decode prog_13_method_29_code 4 = .ok (.istore_n 1, 1) := by decide +kernel
theorem d_Mo_readsNumber_5 : decode prog_13_method_29_code 5 = .ok (.aload_n 0, 1) := by decide +kernel
theorem d_Mo_readsNumber_6 : decode prog_13_method_29_code 6 = .ok (.iconst 0, 1) := by decide +kernel
theorem fl_Mo_228 : FL "ShadeTownModel" 228 T_Mo 19 := atG 1351 (by decide +kernel) rfl
theorem d_Mo_readsNumber_7 : decode prog_13_method_29_code 7 = .ok (.putfield 228, 3) := by decide +kernel
theorem d_Mo_readsNumber_10 : decode prog_13_method_29_code 10 = .ok (.aload_n 0, 1) := by decide +kernel
theorem d_Mo_readsNumber_11 : decode prog_13_method_29_code 11 = .ok (.invokevirtual 231, 3) := by decide +kernel
theorem k_Mo_isDigit : MOk m_Mo_isDigit 0 ∧ IOk m_Mo_isDigit := ⟨⟨atG 1666 (by decide +kernel) rfl, atG 122 (by decide +kernel) rfl, ⟨by decide, by decide⟩, by decide +kernel, by decide⟩, atG 1665 (by decide +kernel) rfl, atG 54 (by decide +kernel) rfl⟩
theorem lk_Mo_231 : Cond.methodLink "ShadeTownModel" 231 ⟨"ShadeTownModel", "isDigit", "()Z"⟩ ∈ tblG := atG 1663 (by decide +kernel) rfl
theorem d_Mo_readsNumber_69 : decode prog_13_method_29_code 69 = .ok (.iconst 1, 1) := by decide +kernel
theorem d_Mo_readsNumber_70 : decode prog_13_method_29_code 70 = .ok (.ireturn, 1) := by decide +kernel
theorem d_Mo_readsNumber_17 : decode prog_13_method_29_code 17 = .ok (.aload_n 0, 1) := by decide +kernel
theorem d_Mo_readsNumber_18 : decode prog_13_method_29_code 18 = .ok (.getfield 212, 3) := by decide +kernel
theorem d_Mo_readsNumber_21 : decode prog_13_method_29_code 21 = .ok (.iload_n 1, 1) := by decide +kernel
theorem d_Mo_readsNumber_22 : decode prog_13_method_29_code 22 = .ok (.iconst 5, 1) := by decide +kernel
theorem d_Mo_readsNumber_23 : decode prog_13_method_29_code 23 = .ok (.iadd, 1) := by decide +kernel
theorem d_Mo_readsNumber_37 : decode prog_13_method_29_code 37 = .ok (.aload_n 0, 1) := by decide +kernel
theorem d_Mo_readsNumber_38 : decode prog_13_method_29_code 38 = .ok (.bipush 10, 2) := by decide +kernel
theorem d_Mo_readsNumber_40 : decode prog_13_method_29_code 40 = .ok (.aload_n 0, 1) := by decide +kernel
theorem d_Mo_readsNumber_41 : decode prog_13_method_29_code 41 = .ok (.getfield 228, 3) := by decide +kernel
theorem d_Mo_readsNumber_44 : decode prog_13_method_29_code 44 = .ok (.imul, 1) := by decide +kernel
theorem d_Mo_readsNumber_45 : decode prog_13_method_29_code 45 = .ok (.aload_n 0, 1) := by decide +kernel
theorem d_Mo_readsNumber_46 : decode prog_13_method_29_code 46 = .ok (.invokevirtual 218, 3) := by decide +kernel
theorem d_Mo_readsNumber_49 : decode prog_13_method_29_code 49 = .ok (.iadd, 1) := by decide +kernel
theorem d_Mo_readsNumber_50 : decode prog_13_method_29_code 50 = .ok (.bipush 48, 2) := by decide +kernel
theorem d_Mo_readsNumber_52 : decode prog_13_method_29_code 52 = .ok (.isub, 1) := by decide +kernel
theorem d_Mo_readsNumber_53 : decode prog_13_method_29_code 53 = .ok (.putfield 228, 3) := by decide +kernel
theorem d_Mo_readsNumber_56 : decode prog_13_method_29_code 56 = .ok (.aload_n 0, 1) := by decide +kernel
theorem d_Mo_readsNumber_57 : decode prog_13_method_29_code 57 = .ok (.aload_n 0, 1) := by decide +kernel
theorem d_Mo_readsNumber_58 : decode prog_13_method_29_code 58 = .ok (.getfield 212, 3) := by decide +kernel
theorem d_Mo_readsNumber_61 : decode prog_13_method_29_code 61 = .ok (.iconst 1, 1) := by decide +kernel
theorem d_Mo_readsNumber_62 : decode prog_13_method_29_code 62 = .ok (.iadd, 1) := by decide +kernel
theorem d_Mo_readsNumber_63 : decode prog_13_method_29_code 63 = .ok (.putfield 212, 3) := by decide +kernel
theorem d_Mo_readsNumber_66 : decode prog_13_method_29_code 66 = .ok (.goto (-56), 3) := by decide +kernel
theorem d_Mo_readsNumber_27 : decode prog_13_method_29_code 27 = .ok (.aload_n 0, 1) := by decide +kernel
theorem d_Mo_readsNumber_28 : decode prog_13_method_29_code 28 = .ok (.iconst 2, 1) := by decide +kernel
theorem d_Mo_readsNumber_29 : decode prog_13_method_29_code 29 = .ok (.aload_n 0, 1) := by decide +kernel
theorem d_Mo_readsNumber_30 : decode prog_13_method_29_code 30 = .ok (.getfield 212, 3) := by decide +kernel
theorem d_Mo_readsNumber_33 : decode prog_13_method_29_code 33 = .ok (.invokevirtual 225, 3) := by decide +kernel
theorem d_Mo_readsNumber_36 : decode prog_13_method_29_code 36 = .ok (.ireturn, 1) := by decide +kernel
theorem d_Mo_readsNumber_24 : decode prog_13_method_29_code 24 = .ok (.if_icmp .ne 13, 3) := by decide +kernel
theorem d_Mo_readsNumber_14 : decode prog_13_method_29_code 14 = .ok (.ifCond .eq 55, 3) := by decide +kernel
def B_Mo_readsNumber_l10 (N : Nat) (a1 : Int32) (rec : Mem → Option (Int32 × Mem)) (σ : Mem) : Option (Int32 × Mem) :=
  bnd1 (f_Mo_isDigit σ) fun r11 =>
  if r11 = 0 then
    (some (1, σ))
  else
    (if (mI σ 65 12) = (a1 + 5) then
      (bnd2 (f_Mo_wrongAt σ 2 (mI σ 65 12)) fun r33 σ33 =>
      grd (decide (r33 &&& 1 = r33)) (some (r33, σ33)))
    else
      (bnd1 (f_Mo_here σ) fun r46 =>
      letv (sI σ 65 19 (((10 * (mI σ 65 19)) + r46) - 48)) fun σ53 =>
      letv (sI σ53 65 12 ((mI σ53 65 12) + 1)) fun σ63 =>
      rec σ63))
def L_Mo_readsNumber_l10 (N : Nat) (a1 : Int32) : Nat → Mem → Option (Int32 × Mem)
  | 0, _ => none
  | k + 1, σ => B_Mo_readsNumber_l10 N a1 (L_Mo_readsNumber_l10 N a1 k) σ
set_option maxHeartbeats 4000000 in
set_option maxRecDepth 20000 in
theorem cL_Mo_readsNumber_l10 (Z : ZX) {Y : YX} {post : Option Value → Mem → Prop} {N : Nat} {a1 : Int32} {Good : Int32 × Mem → Prop} (hR : ∀ (v : Int32) (σr : Mem), Good (v, σr) → post (some (.int v)) σr) : ∀ (k : Nat) (σ : Mem) (res : Int32 × Mem), L_Mo_readsNumber_l10 N a1 k σ = some res → Good res → V (mkB Z) Y m_Mo_readsNumber 2 (QP (mkB Z) Y nC 0 0 post) 0 0 nC σ 10 [(0, rf Z 65), (1, .int a1)] [] := by
  intro k
  induction k with
  | zero => intro σ res h; cases h
  | succ k ih =>
    intro σ res h hg
    replace h : B_Mo_readsNumber_l10 N a1 (L_Mo_readsNumber_l10 N a1 k) σ = some res := h
    unfold B_Mo_readsNumber_l10 at h
    refine V.aload_n d_Mo_readsNumber_10 rfl 0 rfl ?_
    obtain ⟨r11, h1, h⟩ := bnd1_e h
    refine V.vI (as := []) (st := []) (c_Mo_isDigit Z h1) k_Mo_isDigit lk_Mo_231 (by decide) rfl (by decide) ly_65 ok_Mo.1 rfl (Nat.le_of_ble_eq_true rfl) d_Mo_readsNumber_11 ?_
    refine V.if_eq (tgt := 69) d_Mo_readsNumber_14 (by decide) (fun hc14 => ?_) (fun hc14 => ?_)
    · replace h := ite_t hc14 h
      refine V.iconst (v := 1) d_Mo_readsNumber_69 (by decide) ?_
      cases h
      exact V.zret rfl rfl d_Mo_readsNumber_70 (hR _ _ hg)
    · replace h := ite_f hc14 h
      refine V.aload_n d_Mo_readsNumber_17 rfl 0 rfl ?_
      refine V.getI ok_Mo fl_Mo_212 (by decide) (by decide) ly_65 rfl d_Mo_readsNumber_18 ?_
      refine V.iload_n d_Mo_readsNumber_21 rfl 1 rfl ?_
      refine V.iconst (v := 5) d_Mo_readsNumber_22 (by decide) ?_
      refine V.iadd d_Mo_readsNumber_23 ?_
      refine V.icmp_ne (tgt := 37) d_Mo_readsNumber_24 (by decide) (fun hc24 => ?_) (fun hc24 => ?_)
      · replace h := ite_f hc24 h
        refine V.aload_n d_Mo_readsNumber_37 rfl 0 rfl ?_
        refine V.bipush (v := 10) d_Mo_readsNumber_38 (by decide) ?_
        refine V.aload_n d_Mo_readsNumber_40 rfl 0 rfl ?_
        refine V.getI ok_Mo fl_Mo_228 (by decide) (by decide) ly_65 rfl d_Mo_readsNumber_41 ?_
        refine V.imul d_Mo_readsNumber_44 ?_
        refine V.aload_n d_Mo_readsNumber_45 rfl 0 rfl ?_
        obtain ⟨r46, h1, h⟩ := bnd1_e h
        refine V.vI (as := []) (st := [.int (10 * (mI σ 65 19)), rf Z 65]) (c_Mo_here Z h1) k_Mo_here lk_Mo_218 (by decide) rfl (by decide) ly_65 ok_Mo.1 rfl (Nat.le_of_ble_eq_true rfl) d_Mo_readsNumber_46 ?_
        refine V.iadd d_Mo_readsNumber_49 ?_
        refine V.bipush (v := 48) d_Mo_readsNumber_50 (by decide) ?_
        refine V.isub d_Mo_readsNumber_52 ?_
        obtain ⟨σ53, e_σ53, h⟩ := letv_e h
        refine V.putI ok_Mo fl_Mo_228 (by decide) (by decide) ly_65 rfl rfl rfl rfl d_Mo_readsNumber_53 (V.mem e_σ53 ?_)
        refine V.aload_n d_Mo_readsNumber_56 rfl 0 rfl ?_
        refine V.aload_n d_Mo_readsNumber_57 rfl 0 rfl ?_
        refine V.getI ok_Mo fl_Mo_212 (by decide) (by decide) ly_65 rfl d_Mo_readsNumber_58 ?_
        refine V.iconst (v := 1) d_Mo_readsNumber_61 (by decide) ?_
        refine V.iadd d_Mo_readsNumber_62 ?_
        obtain ⟨σ63, e_σ63, h⟩ := letv_e h
        refine V.putI ok_Mo fl_Mo_212 (by decide) (by decide) ly_65 rfl rfl rfl rfl d_Mo_readsNumber_63 (V.mem e_σ63 ?_)
        refine V.goto (tgt := 10) d_Mo_readsNumber_66 (by decide) ?_
        exact V.pick [0, 1] rfl (ih _ _ h hg)
      · replace h := ite_t hc24 h
        refine V.aload_n d_Mo_readsNumber_27 rfl 0 rfl ?_
        refine V.iconst (v := 2) d_Mo_readsNumber_28 (by decide) ?_
        refine V.aload_n d_Mo_readsNumber_29 rfl 0 rfl ?_
        refine V.getI ok_Mo fl_Mo_212 (by decide) (by decide) ly_65 rfl d_Mo_readsNumber_30 ?_
        obtain ⟨r33, σ33, h1, h⟩ := bnd2_e h
        refine V.vI (as := [.int 2, .int (mI σ 65 12)]) (st := []) (c_Mo_wrongAt Z h1) k_Mo_wrongAt lk_Mo_225 (by decide) rfl (by decide) ly_65 ok_Mo.1 rfl (Nat.le_of_ble_eq_true rfl) d_Mo_readsNumber_33 ?_
        obtain ⟨hz, h⟩ := grd_e h
        have hz := congrArg Value.int (of_decide_eq_true hz)
        cases h
        exact V.zret rfl hz d_Mo_readsNumber_36 (hR _ _ hg)
def f_Mo_readsNumber (N : Nat) (σ : Mem) : Option (Int32 × Mem) :=
  letv (mI σ 65 12) fun v4 =>
  letv (sI σ 65 19 0) fun σ7 =>
  L_Mo_readsNumber_l10 N v4 N σ7
set_option maxHeartbeats 4000000 in
set_option maxRecDepth 20000 in
theorem c_Mo_readsNumber (Z : ZX) {N : Nat} {σ : Mem} {r : Int32} {σ' : Mem} (h : f_Mo_readsNumber N σ = some (r, σ')) : CI Z 2 m_Mo_readsNumber [rf Z 65] σ r σ' := by
  refine Ct.of (by decide +kernel) (Nat.le_of_ble_eq_true rfl) (fun Y => ?_)
  show V (mkB Z) Y m_Mo_readsNumber 2 (QP (mkB Z) Y nC 0 0 (fun v t => v = some (.int r) ∧ t = σ')) 0 0 nC σ 0 [(0, rf Z 65)] []
  unfold f_Mo_readsNumber at h
  refine V.aload_n d_Mo_readsNumber_0 rfl 0 rfl ?_
  refine V.getI ok_Mo fl_Mo_212 (by decide) (by decide) ly_65 rfl d_Mo_readsNumber_1 ?_
  obtain ⟨v4, e_v4, h⟩ := letv_e h
  refine V.topI e_v4 ?_
  refine V.istore_n (lv' := [(1, .int v4), (0, rf Z 65)]) d_Mo_readsNumber_4 rfl (by decide) rfl ?_
  refine V.aload_n d_Mo_readsNumber_5 rfl 1 rfl ?_
  refine V.iconst (v := 0) d_Mo_readsNumber_6 (by decide) ?_
  obtain ⟨σ7, e_σ7, h⟩ := letv_e h
  refine V.putI ok_Mo fl_Mo_228 (by decide) (by decide) ly_65 rfl rfl rfl rfl d_Mo_readsNumber_7 (V.mem e_σ7 ?_)
  refine V.pick [1, 0] rfl (cL_Mo_readsNumber_l10 Z (Good := fun z => z = _) (fun r10v r10m he => ?_) N  _ _ h rfl)
  · cases he
    exact ⟨rfl, rfl⟩
