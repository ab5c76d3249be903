abbrev m_Mo_beside : MI := (⟨"ShadeTownModel", "beside", "(II)I"⟩, prog_13_method_73_code, 4, (Option.some Jvm.ClassFile.FieldType.int))
theorem d_Mo_beside_0 : decode prog_13_method_73_code 0 = .ok (.iload_n 1, 1) := by decide +kernel
theorem d_Mo_beside_1 : decode prog_13_method_73_code 1 = .ok (.iconst 4, 1) := by decide +kernel
theorem d_Mo_beside_7 : decode prog_13_method_73_code 7 = .ok (.iload_n 0, 1) := by decide +kernel
theorem d_Mo_beside_8 : decode prog_13_method_73_code 8 = .ok (.bipush 12, 2) := by decide +kernel
theorem d_Mo_beside_10 : decode prog_13_method_73_code 10 = .ok (.irem, 1) := by decide +kernel
theorem d_Mo_beside_11 : decode prog_13_method_73_code 11 = .ok (.iload_n 1, 1) := by decide +kernel
theorem d_Mo_beside_12 : decode prog_13_method_73_code 12 = .ok (.invokestatic 349, 3) := by decide +kernel
theorem d_Mo_beside_15 : decode prog_13_method_73_code 15 = .ok (.iadd, 1) := by decide +kernel
theorem d_Mo_beside_16 : decode prog_13_method_73_code 16 = .ok (.istore_n 2, 1) := by decide +kernel
theorem d_Mo_beside_17 : decode prog_13_method_73_code 17 = .ok (.iload_n 0, 1) := by decide +kernel
theorem d_Mo_beside_18 : decode prog_13_method_73_code 18 = .ok (.bipush 12, 2) := by decide +kernel
theorem d_Mo_beside_20 : decode prog_13_method_73_code 20 = .ok (.idiv, 1) := by decide +kernel
theorem d_Mo_beside_21 : decode prog_13_method_73_code 21 = .ok (.iload_n 1, 1) := by decide +kernel
theorem d_Mo_beside_22 : decode prog_13_method_73_code 22 = .ok (.invokestatic 352, 3) := by decide +kernel
theorem d_Mo_beside_25 : decode prog_13_method_73_code 25 = .ok (.iadd, 1) := by decide +kernel
theorem d_Mo_beside_26 : decode prog_13_method_73_code 26 = .ok (.istore_n 3, 1) := by decide +kernel
theorem d_Mo_beside_27 : decode prog_13_method_73_code 27 = .ok (.iload_n 2, 1) := by decide +kernel
theorem d_Mo_beside_28 : decode prog_13_method_73_code 28 = .ok (.iload_n 3, 1) := by decide +kernel
theorem d_Mo_beside_29 : decode prog_13_method_73_code 29 = .ok (.invokestatic 185, 3) := by decide +kernel
theorem d_Mo_beside_44 : decode prog_13_method_73_code 44 = .ok (.iconst (-1), 1) := by decide +kernel
theorem d_Mo_beside_45 : decode prog_13_method_73_code 45 = .ok (.ireturn, 1) := by decide +kernel
theorem d_Mo_beside_35 : decode prog_13_method_73_code 35 = .ok (.bipush 12, 2) := by decide +kernel
theorem d_Mo_beside_37 : decode prog_13_method_73_code 37 = .ok (.iload_n 3, 1) := by decide +kernel
theorem d_Mo_beside_38 : decode prog_13_method_73_code 38 = .ok (.imul, 1) := by decide +kernel
theorem d_Mo_beside_39 : decode prog_13_method_73_code 39 = .ok (.iload_n 2, 1) := by decide +kernel
theorem d_Mo_beside_40 : decode prog_13_method_73_code 40 = .ok (.iadd, 1) := by decide +kernel
theorem d_Mo_beside_41 : decode prog_13_method_73_code 41 = .ok (.goto 4, 3) := by decide +kernel
theorem d_Mo_beside_32 : decode prog_13_method_73_code 32 = .ok (.ifCond .eq 12, 3) := by decide +kernel
theorem d_Mo_beside_5 : decode prog_13_method_73_code 5 = .ok (.iload_n 0, 1) := by decide +kernel
theorem d_Mo_beside_6 : decode prog_13_method_73_code 6 = .ok (.ireturn, 1) := by decide +kernel
theorem d_Mo_beside_2 : decode prog_13_method_73_code 2 = .ok (.if_icmp .ne 5, 3) := by decide +kernel
def f_Mo_beside (a0 : Int32) (a1 : Int32) : Option (Int32) :=
  if a1 = 4 then
    (some a0)
  else
    (bnd1 (f_Mo_acrossOf a1) fun r12 =>
    letv ((a0 - a0 / 12 * 12) + r12) fun v16 =>
    bnd1 (f_Mo_upOf a1) fun r22 =>
    letv ((a0 / 12) + r22) fun v26 =>
    bnd1 (f_Mo_isIn v16 v26) fun r29 =>
    if r29 = 0 then
      (some (-1))
    else
      (some ((12 * v26) + v16)))
set_option maxHeartbeats 4000000 in
set_option maxRecDepth 20000 in
theorem c_Mo_beside (Z : ZX) {σ : Mem} {a0 : Int32} {a1 : Int32} {r : Int32} (h : f_Mo_beside a0 a1 = some r) : CI Z 1 m_Mo_beside [.int a0, .int a1] σ r σ := by
  refine Ct.of (by decide +kernel) (Nat.le_of_ble_eq_true rfl) (fun Y => ?_)
  show V (mkB Z) Y m_Mo_beside 1 (QP (mkB Z) Y nC 0 0 (fun v t => v = some (.int r) ∧ t = σ)) 0 0 nC σ 0 [(0, .int a0), (1, .int a1)] []
  unfold f_Mo_beside at h
  refine V.iload_n d_Mo_beside_0 rfl 1 rfl ?_
  refine V.iconst (v := 4) d_Mo_beside_1 (by decide) ?_
  refine V.icmp_ne (tgt := 7) d_Mo_beside_2 (by decide) (fun hc2 => ?_) (fun hc2 => ?_)
  · replace h := ite_f hc2 h
    refine V.iload_n d_Mo_beside_7 rfl 0 rfl ?_
    refine V.bipush (v := 12) d_Mo_beside_8 (by decide) ?_
    refine V.irem d_Mo_beside_10 (by decide) ?_
    refine V.iload_n d_Mo_beside_11 rfl 1 rfl ?_
    obtain ⟨r12, h1, h⟩ := bnd1_e h
    refine V.sI (as := [.int a1]) (st := [.int (a0 - a0 / 12 * 12)]) (c_Mo_acrossOf Z h1) k_Mo_acrossOf lk_Mo_349 (by decide) rfl rfl (Nat.le_of_ble_eq_true rfl) d_Mo_beside_12 ?_
    refine V.iadd d_Mo_beside_15 ?_
    obtain ⟨v16, e_v16, h⟩ := letv_e h
    refine V.topI e_v16 ?_
    refine V.istore_n (lv' := [(2, .int v16), (0, .int a0), (1, .int a1)]) d_Mo_beside_16 rfl (by decide) rfl ?_
    refine V.iload_n d_Mo_beside_17 rfl 1 rfl ?_
    refine V.bipush (v := 12) d_Mo_beside_18 (by decide) ?_
    refine V.idiv d_Mo_beside_20 (by decide) ?_
    refine V.iload_n d_Mo_beside_21 rfl 2 rfl ?_
    obtain ⟨r22, h1, h⟩ := bnd1_e h
    refine V.sI (as := [.int a1]) (st := [.int (a0 / 12)]) (c_Mo_upOf Z h1) k_Mo_upOf lk_Mo_352 (by decide) rfl rfl (Nat.le_of_ble_eq_true rfl) d_Mo_beside_22 ?_
    refine V.iadd d_Mo_beside_25 ?_
    obtain ⟨v26, e_v26, h⟩ := letv_e h
    refine V.topI e_v26 ?_
    refine V.istore_n (lv' := [(3, .int v26), (2, .int v16), (0, .int a0), (1, .int a1)]) d_Mo_beside_26 rfl (by decide) rfl ?_
    refine V.iload_n d_Mo_beside_27 rfl 1 rfl ?_
    refine V.iload_n d_Mo_beside_28 rfl 0 rfl ?_
    obtain ⟨r29, h1, h⟩ := bnd1_e h
    refine V.sI (as := [.int v16, .int v26]) (st := []) (c_Mo_isIn Z h1) k_Mo_isIn lk_Mo_185 (by decide) rfl rfl (Nat.le_of_ble_eq_true rfl) d_Mo_beside_29 ?_
    refine V.if_eq (tgt := 44) d_Mo_beside_32 (by decide) (fun hc32 => ?_) (fun hc32 => ?_)
    · replace h := ite_t hc32 h
      refine V.iconst (v := (-1)) d_Mo_beside_44 (by decide) ?_
      cases h
      exact V.iret rfl d_Mo_beside_45 ⟨rfl, rfl⟩
    · replace h := ite_f hc32 h
      refine V.bipush (v := 12) d_Mo_beside_35 (by decide) ?_
      refine V.iload_n d_Mo_beside_37 rfl 0 rfl ?_
      refine V.imul d_Mo_beside_38 ?_
      refine V.iload_n d_Mo_beside_39 rfl 1 rfl ?_
      refine V.iadd d_Mo_beside_40 ?_
      refine V.goto (tgt := 45) d_Mo_beside_41 (by decide) ?_
      cases h
      exact V.iret rfl d_Mo_beside_45 ⟨rfl, rfl⟩
  · replace h := ite_t hc2 h
    refine V.iload_n d_Mo_beside_5 rfl 0 rfl ?_
    cases h
    exact V.iret rfl d_Mo_beside_6 ⟨rfl, rfl⟩
abbrev m_Mo_goesBy : MI := (⟨"ShadeTownModel", "goesBy", "(III)I"⟩, prog_13_method_74_code, 4, (Option.some Jvm.ClassFile.FieldType.int))
theorem d_Mo_goesBy_0 : decode prog_13_method_74_code 0 = .ok (.iload_n 3, 1) := by decide +kernel
theorem d_Mo_goesBy_1 : decode prog_13_method_74_code 1 = .ok (.iconst (-1), 1) := by decide +kernel
theorem kc_Mo_403 : Cond.constant "ShadeTownModel" 403 (1000000000) ∈ tblG := atG 1851 (by decide +kernel) rfl
theorem d_Mo_goesBy_23 : decode prog_13_method_74_code 23 = .ok (.ldc_w 403, 3) := by decide +kernel
theorem d_Mo_goesBy_26 : decode prog_13_method_74_code 26 = .ok (.goto 26, 3) := by decide +kernel
theorem d_Mo_goesBy_52 : decode prog_13_method_74_code 52 = .ok (.ireturn, 1) := by decide +kernel
theorem d_Mo_goesBy_5 : decode prog_13_method_74_code 5 = .ok (.aload_n 0, 1) := by decide +kernel
theorem fl_Mo_81 : FL "ShadeTownModel" 81 T_Mo 40 := atG 1372 (by decide +kernel) rfl
theorem d_Mo_goesBy_6 : decode prog_13_method_74_code 6 = .ok (.getfield 81, 3) := by decide +kernel
theorem d_Mo_goesBy_9 : decode prog_13_method_74_code 9 = .ok (.sipush 144, 3) := by decide +kernel
theorem d_Mo_goesBy_12 : decode prog_13_method_74_code 12 = .ok (.iload_n 1, 1) := by decide +kernel
theorem d_Mo_goesBy_13 : decode prog_13_method_74_code 13 = .ok (.imul, 1) := by decide +kernel
theorem d_Mo_goesBy_14 : decode prog_13_method_74_code 14 = .ok (.iload_n 3, 1) := by decide +kernel
theorem d_Mo_goesBy_15 : decode prog_13_method_74_code 15 = .ok (.iadd, 1) := by decide +kernel
theorem d_Mo_goesBy_16 : decode prog_13_method_74_code 16 = .ok (.iaload, 1) := by decide +kernel
theorem d_Mo_goesBy_17 : decode prog_13_method_74_code 17 = .ok (.ldc_w 403, 3) := by decide +kernel
theorem d_Mo_goesBy_29 : decode prog_13_method_74_code 29 = .ok (.aload_n 0, 1) := by decide +kernel
theorem d_Mo_goesBy_30 : decode prog_13_method_74_code 30 = .ok (.getfield 81, 3) := by decide +kernel
theorem d_Mo_goesBy_33 : decode prog_13_method_74_code 33 = .ok (.sipush 144, 3) := by decide +kernel
theorem d_Mo_goesBy_36 : decode prog_13_method_74_code 36 = .ok (.iload_n 1, 1) := by decide +kernel
theorem d_Mo_goesBy_37 : decode prog_13_method_74_code 37 = .ok (.imul, 1) := by decide +kernel
theorem d_Mo_goesBy_38 : decode prog_13_method_74_code 38 = .ok (.iload_n 3, 1) := by decide +kernel
theorem d_Mo_goesBy_39 : decode prog_13_method_74_code 39 = .ok (.iadd, 1) := by decide +kernel
theorem d_Mo_goesBy_40 : decode prog_13_method_74_code 40 = .ok (.iaload, 1) := by decide +kernel
theorem d_Mo_goesBy_41 : decode prog_13_method_74_code 41 = .ok (.iload_n 3, 1) := by decide +kernel
theorem d_Mo_goesBy_42 : decode prog_13_method_74_code 42 = .ok (.iload_n 2, 1) := by decide +kernel
theorem d_Mo_goesBy_50 : decode prog_13_method_74_code 50 = .ok (.iconst 1, 1) := by decide +kernel
theorem d_Mo_goesBy_51 : decode prog_13_method_74_code 51 = .ok (.iadd, 1) := by decide +kernel
theorem d_Mo_goesBy_46 : decode prog_13_method_74_code 46 = .ok (.iconst 0, 1) := by decide +kernel
theorem d_Mo_goesBy_47 : decode prog_13_method_74_code 47 = .ok (.goto 4, 3) := by decide +kernel
theorem d_Mo_goesBy_43 : decode prog_13_method_74_code 43 = .ok (.if_icmp .ne 7, 3) := by decide +kernel
theorem d_Mo_goesBy_20 : decode prog_13_method_74_code 20 = .ok (.if_icmp .lt 9, 3) := by decide +kernel
theorem d_Mo_goesBy_2 : decode prog_13_method_74_code 2 = .ok (.if_icmp .eq 21, 3) := by decide +kernel
def f_Mo_goesBy (σ : Mem) (a1 : Int32) (a2 : Int32) (a3 : Int32) : Option (Int32) :=
  if a3 = (-1) then
    (some 1000000000)
  else
    (grd (inb ((144 * a1) + a3) 1728) <|
    if (mI σ 89 (((144 * a1) + a3).toNatClampNeg)) < 1000000000 then
      (grd (inb ((144 * a1) + a3) 1728) <|
      if a3 = a2 then
        (some ((mI σ 89 (((144 * a1) + a3).toNatClampNeg)) + 0))
      else
        (some ((mI σ 89 (((144 * a1) + a3).toNatClampNeg)) + 1)))
    else
      (some 1000000000))
set_option maxHeartbeats 4000000 in
set_option maxRecDepth 20000 in
theorem c_Mo_goesBy (Z : ZX) {σ : Mem} {a1 : Int32} {a2 : Int32} {a3 : Int32} {r : Int32} (h : f_Mo_goesBy σ a1 a2 a3 = some r) : CI Z 0 m_Mo_goesBy [rf Z 65, .int a1, .int a2, .int a3] σ r σ := by
  refine Ct.of (by decide +kernel) (Nat.le_of_ble_eq_true rfl) (fun Y => ?_)
  show V (mkB Z) Y m_Mo_goesBy 0 (QP (mkB Z) Y nC 0 0 (fun v t => v = some (.int r) ∧ t = σ)) 0 0 nC σ 0 [(0, rf Z 65), (1, .int a1), (2, .int a2), (3, .int a3)] []
  unfold f_Mo_goesBy at h
  refine V.iload_n d_Mo_goesBy_0 rfl 3 rfl ?_
  refine V.iconst (v := (-1)) d_Mo_goesBy_1 (by decide) ?_
  refine V.icmp_eq (tgt := 23) d_Mo_goesBy_2 (by decide) (fun hc2 => ?_) (fun hc2 => ?_)
  · replace h := ite_t hc2 h
    refine V.ldcw (v := 1000000000) kc_Mo_403 d_Mo_goesBy_23 ?_
    refine V.goto (tgt := 52) d_Mo_goesBy_26 (by decide) ?_
    cases h
    exact V.iret rfl d_Mo_goesBy_52 ⟨rfl, rfl⟩
  · replace h := ite_f hc2 h
    refine V.aload_n d_Mo_goesBy_5 rfl 0 rfl ?_
    refine V.getR (r := 89) ok_Mo fl_Mo_81 (by decide) (by decide) ly_65 rfl d_Mo_goesBy_6 ?_
    refine V.sipush (v := 144) d_Mo_goesBy_9 (by decide) ?_
    refine V.iload_n d_Mo_goesBy_12 rfl 1 rfl ?_
    refine V.imul d_Mo_goesBy_13 ?_
    refine V.iload_n d_Mo_goesBy_14 rfl 3 rfl ?_
    refine V.iadd d_Mo_goesBy_15 ?_
    obtain ⟨gq, h⟩ := grd_e h
    refine V.ra (by decide) ly_89 (inb_e gq) rfl d_Mo_goesBy_16 ?_
    refine V.ldcw (v := 1000000000) kc_Mo_403 d_Mo_goesBy_17 ?_
    refine V.icmp_lt (tgt := 29) d_Mo_goesBy_20 (by decide) (fun hc20 => ?_) (fun hc20 => ?_)
    · replace h := ite_t hc20 h
      refine V.aload_n d_Mo_goesBy_29 rfl 0 rfl ?_
      refine V.getR (r := 89) ok_Mo fl_Mo_81 (by decide) (by decide) ly_65 rfl d_Mo_goesBy_30 ?_
      refine V.sipush (v := 144) d_Mo_goesBy_33 (by decide) ?_
      refine V.iload_n d_Mo_goesBy_36 rfl 1 rfl ?_
      refine V.imul d_Mo_goesBy_37 ?_
      refine V.iload_n d_Mo_goesBy_38 rfl 3 rfl ?_
      refine V.iadd d_Mo_goesBy_39 ?_
      obtain ⟨gq, h⟩ := grd_e h
      refine V.ra (by decide) ly_89 (inb_e gq) rfl d_Mo_goesBy_40 ?_
      refine V.iload_n d_Mo_goesBy_41 rfl 3 rfl ?_
      refine V.iload_n d_Mo_goesBy_42 rfl 2 rfl ?_
      refine V.icmp_ne (tgt := 50) d_Mo_goesBy_43 (by decide) (fun hc43 => ?_) (fun hc43 => ?_)
      · replace h := ite_f hc43 h
        refine V.iconst (v := 1) d_Mo_goesBy_50 (by decide) ?_
        refine V.iadd d_Mo_goesBy_51 ?_
        cases h
        exact V.iret rfl d_Mo_goesBy_52 ⟨rfl, rfl⟩
      · replace h := ite_t hc43 h
        refine V.iconst (v := 0) d_Mo_goesBy_46 (by decide) ?_
        refine V.goto (tgt := 51) d_Mo_goesBy_47 (by decide) ?_
        refine V.iadd d_Mo_goesBy_51 ?_
        cases h
        exact V.iret rfl d_Mo_goesBy_52 ⟨rfl, rfl⟩
    · replace h := ite_f hc20 h
      refine V.ldcw (v := 1000000000) kc_Mo_403 d_Mo_goesBy_23 ?_
      refine V.goto (tgt := 52) d_Mo_goesBy_26 (by decide) ?_
      cases h
      exact V.iret rfl d_Mo_goesBy_52 ⟨rfl, rfl⟩
abbrev m_Mo_laysStrip : MI := (⟨"ShadeTownModel", "laysStrip", "(II)V"⟩, prog_13_method_75_code, 7, (Option.none : Option Jvm.ClassFile.FieldType))
theorem d_Mo_laysStrip_0 : decode prog_13_method_75_code 0 = .ok (.iload_n 2, 1) := by decide +kernel
theorem d_Mo_laysStrip_1 : decode prog_13_method_75_code 1 = .ok (.iconst 1, 1) := by decide +kernel
theorem d_Mo_laysStrip_2 : decode prog_13_method_75_code 2 = .ok (.isub, 1) := by decide +kernel
theorem d_Mo_laysStrip_3 : decode prog_13_method_75_code 3 = .ok (.istore_n 3, 1) := by decide +kernel
theorem d_Mo_laysStrip_4 : decode prog_13_method_75_code 4 = .ok (.iload_n 3, 1) := by decide +kernel
theorem d_Mo_laysStrip_158 : decode prog_13_method_75_code 158 = .ok (.return_, 1) := by decide +kernel
theorem d_Mo_laysStrip_8 : decode prog_13_method_75_code 8 = .ok (.iconst 0, 1) := by decide +kernel
theorem d_Mo_laysStrip_9 : decode prog_13_method_75_code 9 = .ok (.istore 4, 2) := by decide +kernel
theorem d_Mo_laysStrip_11 : decode prog_13_method_75_code 11 = .ok (.iload 4, 2) := by decide +kernel
theorem d_Mo_laysStrip_13 : decode prog_13_method_75_code 13 = .ok (.sipush 144, 3) := by decide +kernel
theorem d_Mo_laysStrip_19 : decode prog_13_method_75_code 19 = .ok (.iload_n 3, 1) := by decide +kernel
theorem d_Mo_laysStrip_20 : decode prog_13_method_75_code 20 = .ok (.iload_n 2, 1) := by decide +kernel
theorem d_Mo_laysStrip_21 : decode prog_13_method_75_code 21 = .ok (.iconst 1, 1) := by decide +kernel
theorem d_Mo_laysStrip_22 : decode prog_13_method_75_code 22 = .ok (.isub, 1) := by decide +kernel
theorem d_Mo_laysStrip_30 : decode prog_13_method_75_code 30 = .ok (.ldc_w 403, 3) := by decide +kernel
theorem d_Mo_laysStrip_26 : decode prog_13_method_75_code 26 = .ok (.iconst 0, 1) := by decide +kernel
theorem d_Mo_laysStrip_27 : decode prog_13_method_75_code 27 = .ok (.goto 6, 3) := by decide +kernel
theorem d_Mo_laysStrip_23 : decode prog_13_method_75_code 23 = .ok (.if_icmp .ne 7, 3) := by decide +kernel
theorem d_Mo_laysStrip_33 : decode prog_13_method_75_code 33 = .ok (.istore 5, 2) := by decide +kernel
theorem d_Mo_laysStrip_35 : decode prog_13_method_75_code 35 = .ok (.iconst 0, 1) := by decide +kernel
theorem d_Mo_laysStrip_36 : decode prog_13_method_75_code 36 = .ok (.istore 6, 2) := by decide +kernel
theorem d_Mo_laysStrip_38 : decode prog_13_method_75_code 38 = .ok (.iload 6, 2) := by decide +kernel
theorem d_Mo_laysStrip_40 : decode prog_13_method_75_code 40 = .ok (.iconst 5, 1) := by decide +kernel
theorem d_Mo_laysStrip_44 : decode prog_13_method_75_code 44 = .ok (.iload_n 3, 1) := by decide +kernel
theorem d_Mo_laysStrip_45 : decode prog_13_method_75_code 45 = .ok (.iload_n 2, 1) := by decide +kernel
theorem d_Mo_laysStrip_46 : decode prog_13_method_75_code 46 = .ok (.iconst 1, 1) := by decide +kernel
theorem d_Mo_laysStrip_47 : decode prog_13_method_75_code 47 = .ok (.isub, 1) := by decide +kernel
theorem d_Mo_laysStrip_51 : decode prog_13_method_75_code 51 = .ok (.iload 5, 2) := by decide +kernel
theorem d_Mo_laysStrip_53 : decode prog_13_method_75_code 53 = .ok (.aload_n 0, 1) := by decide +kernel
theorem d_Mo_laysStrip_54 : decode prog_13_method_75_code 54 = .ok (.iload_n 3, 1) := by decide +kernel
theorem d_Mo_laysStrip_55 : decode prog_13_method_75_code 55 = .ok (.iconst 1, 1) := by decide +kernel
theorem d_Mo_laysStrip_56 : decode prog_13_method_75_code 56 = .ok (.iadd, 1) := by decide +kernel
theorem d_Mo_laysStrip_57 : decode prog_13_method_75_code 57 = .ok (.iload 4, 2) := by decide +kernel
theorem d_Mo_laysStrip_59 : decode prog_13_method_75_code 59 = .ok (.iload 4, 2) := by decide +kernel
theorem d_Mo_laysStrip_61 : decode prog_13_method_75_code 61 = .ok (.iload 6, 2) := by decide +kernel
theorem d_Mo_laysStrip_63 : decode prog_13_method_75_code 63 = .ok (.invokestatic 404, 3) := by decide +kernel
theorem k_Mo_beside : MOk m_Mo_beside 2 ∧ Cond.static m_Mo_beside.1 ∈ tblG := ⟨⟨atG 1854 (by decide +kernel) rfl, atG 122 (by decide +kernel) rfl, ⟨by decide, by decide⟩, by decide +kernel, by decide⟩, atG 1853 (by decide +kernel) rfl⟩
theorem lk_Mo_404 : Cond.methodLink "ShadeTownModel" 404 ⟨"ShadeTownModel", "beside", "(II)I"⟩ ∈ tblG := atG 1852 (by decide +kernel) rfl
theorem d_Mo_laysStrip_66 : decode prog_13_method_75_code 66 = .ok (.invokevirtual 407, 3) := by decide +kernel
theorem k_Mo_goesBy : MOk m_Mo_goesBy 3 ∧ IOk m_Mo_goesBy := ⟨⟨atG 1858 (by decide +kernel) rfl, atG 122 (by decide +kernel) rfl, ⟨by decide, by decide⟩, by decide +kernel, by decide⟩, atG 1857 (by decide +kernel) rfl, atG 84 (by decide +kernel) rfl⟩
theorem lk_Mo_407 : Cond.methodLink "ShadeTownModel" 407 ⟨"ShadeTownModel", "goesBy", "(III)I"⟩ ∈ tblG := atG 1855 (by decide +kernel) rfl
theorem d_Mo_laysStrip_69 : decode prog_13_method_75_code 69 = .ok (.invokestatic 342, 3) := by decide +kernel
theorem d_Mo_laysStrip_72 : decode prog_13_method_75_code 72 = .ok (.istore 5, 2) := by decide +kernel
theorem d_Mo_laysStrip_74 : decode prog_13_method_75_code 74 = .ok (.iinc 6 1, 3) := by decide +kernel
theorem d_Mo_laysStrip_77 : decode prog_13_method_75_code 77 = .ok (.goto (-39), 3) := by decide +kernel
theorem d_Mo_laysStrip_48 : decode prog_13_method_75_code 48 = .ok (.if_icmp .ge 32, 3) := by decide +kernel
theorem d_Mo_laysStrip_41 : decode prog_13_method_75_code 41 = .ok (.if_icmp .ge 39, 3) := by decide +kernel
theorem d_Mo_laysStrip_80 : decode prog_13_method_75_code 80 = .ok (.aload_n 0, 1) := by decide +kernel
theorem d_Mo_laysStrip_81 : decode prog_13_method_75_code 81 = .ok (.iload_n 1, 1) := by decide +kernel
theorem d_Mo_laysStrip_82 : decode prog_13_method_75_code 82 = .ok (.iload_n 3, 1) := by decide +kernel
theorem d_Mo_laysStrip_83 : decode prog_13_method_75_code 83 = .ok (.iadd, 1) := by decide +kernel
theorem d_Mo_laysStrip_84 : decode prog_13_method_75_code 84 = .ok (.iload 4, 2) := by decide +kernel
theorem d_Mo_laysStrip_86 : decode prog_13_method_75_code 86 = .ok (.invokevirtual 373, 3) := by decide +kernel
theorem d_Mo_laysStrip_92 : decode prog_13_method_75_code 92 = .ok (.iload 5, 2) := by decide +kernel
theorem d_Mo_laysStrip_94 : decode prog_13_method_75_code 94 = .ok (.ldc_w 403, 3) := by decide +kernel
theorem d_Mo_laysStrip_97 : decode prog_13_method_75_code 97 = .ok (.if_icmp .ge 7, 3) := by decide +kernel
theorem d_Mo_laysStrip_89 : decode prog_13_method_75_code 89 = .ok (.ifCond .eq 15, 3) := by decide +kernel
theorem d_Mo_laysStrip_104 : decode prog_13_method_75_code 104 = .ok (.iconst 0, 1) := by decide +kernel
theorem d_Mo_laysStrip_100 : decode prog_13_method_75_code 100 = .ok (.iconst 1, 1) := by decide +kernel
theorem d_Mo_laysStrip_101 : decode prog_13_method_75_code 101 = .ok (.goto 4, 3) := by decide +kernel
theorem d_Mo_laysStrip_105 : decode prog_13_method_75_code 105 = .ok (.istore 6, 2) := by decide +kernel
theorem d_Mo_laysStrip_107 : decode prog_13_method_75_code 107 = .ok (.aload_n 0, 1) := by decide +kernel
theorem d_Mo_laysStrip_108 : decode prog_13_method_75_code 108 = .ok (.getfield 81, 3) := by decide +kernel
theorem d_Mo_laysStrip_111 : decode prog_13_method_75_code 111 = .ok (.sipush 144, 3) := by decide +kernel
theorem d_Mo_laysStrip_114 : decode prog_13_method_75_code 114 = .ok (.iload_n 3, 1) := by decide +kernel
theorem d_Mo_laysStrip_115 : decode prog_13_method_75_code 115 = .ok (.imul, 1) := by decide +kernel
theorem d_Mo_laysStrip_116 : decode prog_13_method_75_code 116 = .ok (.iload 4, 2) := by decide +kernel
theorem d_Mo_laysStrip_118 : decode prog_13_method_75_code 118 = .ok (.iadd, 1) := by decide +kernel
theorem d_Mo_laysStrip_119 : decode prog_13_method_75_code 119 = .ok (.iload 6, 2) := by decide +kernel
theorem d_Mo_laysStrip_142 : decode prog_13_method_75_code 142 = .ok (.ldc_w 403, 3) := by decide +kernel
theorem d_Mo_laysStrip_124 : decode prog_13_method_75_code 124 = .ok (.iload 5, 2) := by decide +kernel
theorem d_Mo_laysStrip_126 : decode prog_13_method_75_code 126 = .ok (.bipush 32, 2) := by decide +kernel
theorem d_Mo_laysStrip_128 : decode prog_13_method_75_code 128 = .ok (.aload_n 0, 1) := by decide +kernel
theorem d_Mo_laysStrip_129 : decode prog_13_method_75_code 129 = .ok (.iload 4, 2) := by decide +kernel
theorem d_Mo_laysStrip_131 : decode prog_13_method_75_code 131 = .ok (.iload_n 1, 1) := by decide +kernel
theorem d_Mo_laysStrip_132 : decode prog_13_method_75_code 132 = .ok (.iload_n 3, 1) := by decide +kernel
theorem d_Mo_laysStrip_133 : decode prog_13_method_75_code 133 = .ok (.iadd, 1) := by decide +kernel
theorem d_Mo_laysStrip_134 : decode prog_13_method_75_code 134 = .ok (.invokevirtual 379, 3) := by decide +kernel
theorem d_Mo_laysStrip_137 : decode prog_13_method_75_code 137 = .ok (.imul, 1) := by decide +kernel
theorem d_Mo_laysStrip_138 : decode prog_13_method_75_code 138 = .ok (.iadd, 1) := by decide +kernel
theorem d_Mo_laysStrip_139 : decode prog_13_method_75_code 139 = .ok (.goto 6, 3) := by decide +kernel
theorem d_Mo_laysStrip_121 : decode prog_13_method_75_code 121 = .ok (.ifCond .eq 21, 3) := by decide +kernel
theorem d_Mo_laysStrip_145 : decode prog_13_method_75_code 145 = .ok (.iastore, 1) := by decide +kernel
theorem d_Mo_laysStrip_146 : decode prog_13_method_75_code 146 = .ok (.iinc 4 1, 3) := by decide +kernel
theorem d_Mo_laysStrip_149 : decode prog_13_method_75_code 149 = .ok (.goto (-138), 3) := by decide +kernel
theorem d_Mo_laysStrip_16 : decode prog_13_method_75_code 16 = .ok (.if_icmp .ge 136, 3) := by decide +kernel
theorem d_Mo_laysStrip_152 : decode prog_13_method_75_code 152 = .ok (.iinc 3 (-1), 3) := by decide +kernel
theorem d_Mo_laysStrip_155 : decode prog_13_method_75_code 155 = .ok (.goto (-151), 3) := by decide +kernel
theorem d_Mo_laysStrip_5 : decode prog_13_method_75_code 5 = .ok (.ifCond .lt 153, 3) := by decide +kernel
def B_Mo_laysStrip_l38 (N : Nat) (a1 : Int32) (a2 : Int32) (a3 : Int32) (a4 : Int32) (σ : Mem) (rec : Int32 → Int32 → Option (Int32)) (x5 : Int32) (x6 : Int32) : Option (Int32) :=
  if 5 ≤ x6 then
    (some x5)
  else
    (if (a2 - 1) ≤ a3 then
      (some x5)
    else
      (bnd1 (f_Mo_beside a4 x6) fun r63 =>
      bnd1 (f_Mo_goesBy σ (a3 + 1) a4 r63) fun r66 =>
      bnd1 (f_Mo_min x5 r66) fun r69 =>
      letv (x6 + 1) fun v74 =>
      rec r69 v74))
def L_Mo_laysStrip_l38 (N : Nat) (a1 : Int32) (a2 : Int32) (a3 : Int32) (a4 : Int32) (σ : Mem) : Nat → Int32 → Int32 → Option (Int32)
  | 0, _, _ => none
  | k + 1, x5, x6 => B_Mo_laysStrip_l38 N a1 a2 a3 a4 σ (L_Mo_laysStrip_l38 N a1 a2 a3 a4 σ k) x5 x6
set_option maxHeartbeats 4000000 in
set_option maxRecDepth 20000 in
theorem cL_Mo_laysStrip_l38 (Z : ZX) {Y : YX} {Q : State → Prop} {N : Nat} {a1 : Int32} {a2 : Int32} {a3 : Int32} {a4 : Int32} {σ : Mem} {Good : Int32 → Prop} (hE : ∀ (o5 : Int32), Good o5 → V (mkB Z) Y m_Mo_laysStrip 4 Q 0 0 nC σ 80 [(0, rf Z 65), (1, .int a1), (2, .int a2), (3, .int a3), (4, .int a4), (5, .int o5)] []) : ∀ (k : Nat) (x5 : Int32) (x6 : Int32) (res : Int32), L_Mo_laysStrip_l38 N a1 a2 a3 a4 σ k x5 x6 = some res → Good res → V (mkB Z) Y m_Mo_laysStrip 4 Q 0 0 nC σ 38 [(0, rf Z 65), (1, .int a1), (2, .int a2), (3, .int a3), (4, .int a4), (5, .int x5), (6, .int x6)] [] := by
  intro k
  induction k with
  | zero => intro x5 x6 res h; cases h
  | succ k ih =>
    intro x5 x6 res h hg
    replace h : B_Mo_laysStrip_l38 N a1 a2 a3 a4 σ (L_Mo_laysStrip_l38 N a1 a2 a3 a4 σ k) x5 x6 = some res := h
    unfold B_Mo_laysStrip_l38 at h
    refine V.iload d_Mo_laysStrip_38 6 rfl ?_
    refine V.iconst (v := 5) d_Mo_laysStrip_40 (by decide) ?_
    refine V.icmp_ge (tgt := 80) d_Mo_laysStrip_41 (by decide) (fun hc41 => ?_) (fun hc41 => ?_)
    · replace h := ite_t hc41 h
      cases h
      exact V.pick [0, 1, 2, 3, 4, 5] rfl (hE _ hg)
    · replace h := ite_f hc41 h
      refine V.iload_n d_Mo_laysStrip_44 rfl 3 rfl ?_
      refine V.iload_n d_Mo_laysStrip_45 rfl 2 rfl ?_
      refine V.iconst (v := 1) d_Mo_laysStrip_46 (by decide) ?_
      refine V.isub d_Mo_laysStrip_47 ?_
      refine V.icmp_ge (tgt := 80) d_Mo_laysStrip_48 (by decide) (fun hc48 => ?_) (fun hc48 => ?_)
      · replace h := ite_t hc48 h
        cases h
        exact V.pick [0, 1, 2, 3, 4, 5] rfl (hE _ hg)
      · replace h := ite_f hc48 h
        refine V.iload d_Mo_laysStrip_51 5 rfl ?_
        refine V.aload_n d_Mo_laysStrip_53 rfl 0 rfl ?_
        refine V.iload_n d_Mo_laysStrip_54 rfl 3 rfl ?_
        refine V.iconst (v := 1) d_Mo_laysStrip_55 (by decide) ?_
        refine V.iadd d_Mo_laysStrip_56 ?_
        refine V.iload d_Mo_laysStrip_57 4 rfl ?_
        refine V.iload d_Mo_laysStrip_59 4 rfl ?_
        refine V.iload d_Mo_laysStrip_61 6 rfl ?_
        obtain ⟨r63, h1, h⟩ := bnd1_e h
        refine V.sI (as := [.int a4, .int x6]) (st := [.int a4, .int (a3 + 1), rf Z 65, .int x5]) (c_Mo_beside Z h1) k_Mo_beside lk_Mo_404 (by decide) rfl rfl (Nat.le_of_ble_eq_true rfl) d_Mo_laysStrip_63 ?_
        obtain ⟨r66, h1, h⟩ := bnd1_e h
        refine V.vI (as := [.int (a3 + 1), .int a4, .int r63]) (st := [.int x5]) (c_Mo_goesBy Z h1) k_Mo_goesBy lk_Mo_407 (by decide) rfl (by decide) ly_65 ok_Mo.1 rfl (Nat.le_of_ble_eq_true rfl) d_Mo_laysStrip_66 ?_
        obtain ⟨r69, h1, h⟩ := bnd1_e h
        refine V.sI (as := [.int x5, .int r66]) (st := []) (c_Mo_min Z h1) k_Mo_min lk_Mo_342 (by decide) rfl rfl (Nat.le_of_ble_eq_true rfl) d_Mo_laysStrip_69 ?_
        refine V.istore (lv' := [(5, .int r69), (0, rf Z 65), (1, .int a1), (2, .int a2), (3, .int a3), (4, .int a4), (6, .int x6)]) d_Mo_laysStrip_72 (by decide) rfl ?_
        obtain ⟨v74, e_v74, h⟩ := letv_e h
        refine V.iinc (v := v74) (lv' := [(6, .int v74), (5, .int r69), (0, rf Z 65), (1, .int a1), (2, .int a2), (3, .int a3), (4, .int a4)]) d_Mo_laysStrip_74 6 rfl (by rw [e_v74]; rfl) (by decide) rfl ?_
        refine V.goto (tgt := 38) d_Mo_laysStrip_77 (by decide) ?_
        exact V.pick [2, 3, 4, 5, 6, 1, 0] rfl (ih _ _ _ h hg)
def B_Mo_laysStrip_l11 (N : Nat) (a1 : Int32) (a2 : Int32) (a3 : Int32) (rec : Int32 → Mem → Option (Mem)) (x4 : Int32) (σ : Mem) : Option (Mem) :=
  if 144 ≤ x4 then
    (some σ)
  else
    (bnd1 ((
      if a3 = (a2 - 1) then
        (some 0)
      else
        (some 1000000000)) : Option (Int32)) fun y23_s0 =>
    bnd1 (L_Mo_laysStrip_l38 N a1 a2 a3 x4 σ N y23_s0 0) fun z38_5 =>
    bnd1 (f_Mo_whoOn σ (a1 + a3) x4) fun r86 =>
    bnd1 ((
      bnd1 ((
        if r86 = 0 then
          (some 0)
        else
          (if 1000000000 ≤ z38_5 then
            (some 0)
          else
            (some 1))) : Option (Nat)) fun t89b =>
      if t89b = 0 then
        (some 0)
      else
      (some 1)) : Option (Int32)) fun y89_s0 =>
    bnd1 ((
      if y89_s0 = 0 then
        (some (1000000000, σ))
      else
        (bnd2 (f_Mo_priceOf N σ x4 (a1 + a3)) fun r134 σ134 =>
        some (z38_5 + (32 * r134), σ134))) : Option (Int32 × Mem)) fun s121 =>
    q2 s121 fun y121_s2 σ121_ =>
    grd (inb ((144 * a3) + x4) 1728) <|
    letv (sI σ121_ 89 (((144 * a3) + x4).toNatClampNeg) y121_s2) fun σ145 =>
    letv (x4 + 1) fun v146 =>
    rec v146 σ145)
def L_Mo_laysStrip_l11 (N : Nat) (a1 : Int32) (a2 : Int32) (a3 : Int32) : Nat → Int32 → Mem → Option (Mem)
  | 0, _, _ => none
  | k + 1, x4, σ => B_Mo_laysStrip_l11 N a1 a2 a3 (L_Mo_laysStrip_l11 N a1 a2 a3 k) x4 σ
set_option maxHeartbeats 4000000 in
set_option maxRecDepth 20000 in
theorem cL_Mo_laysStrip_l11 (Z : ZX) {Y : YX} {Q : State → Prop} {N : Nat} {a1 : Int32} {a2 : Int32} {a3 : Int32} {Good : Mem → Prop} (hE : ∀ (σe : Mem), Good σe → V (mkB Z) Y m_Mo_laysStrip 4 Q 0 0 nC σe 152 [(0, rf Z 65), (1, .int a1), (2, .int a2), (3, .int a3)] []) : ∀ (k : Nat) (x4 : Int32) (σ : Mem) (res : Mem), L_Mo_laysStrip_l11 N a1 a2 a3 k x4 σ = some res → Good res → V (mkB Z) Y m_Mo_laysStrip 4 Q 0 0 nC σ 11 [(0, rf Z 65), (1, .int a1), (2, .int a2), (3, .int a3), (4, .int x4)] [] := by
  intro k
  induction k with
  | zero => intro x4 σ res h; cases h
  | succ k ih =>
    intro x4 σ res h hg
    replace h : B_Mo_laysStrip_l11 N a1 a2 a3 (L_Mo_laysStrip_l11 N a1 a2 a3 k) x4 σ = some res := h
    unfold B_Mo_laysStrip_l11 at h
    refine V.iload d_Mo_laysStrip_11 4 rfl ?_
    refine V.sipush (v := 144) d_Mo_laysStrip_13 (by decide) ?_
    refine V.icmp_ge (tgt := 152) d_Mo_laysStrip_16 (by decide) (fun hc16 => ?_) (fun hc16 => ?_)
    · replace h := ite_t hc16 h
      cases h
      exact V.pick [0, 1, 2, 3] rfl (hE _ hg)
    · replace h := ite_f hc16 h
      refine V.iload_n d_Mo_laysStrip_19 rfl 3 rfl ?_
      refine V.iload_n d_Mo_laysStrip_20 rfl 2 rfl ?_
      refine V.iconst (v := 1) d_Mo_laysStrip_21 (by decide) ?_
      refine V.isub d_Mo_laysStrip_22 ?_
      obtain ⟨s23, h1, h⟩ := bnd1_e h
      have J23_33 : ∀ (y23_s0 : Int32), s23 = y23_s0 → V (mkB Z) Y m_Mo_laysStrip 4 Q 0 0 nC σ 33 [(0, rf Z 65), (1, .int a1), (2, .int a2), (3, .int a3), (4, .int x4)] [.int y23_s0] := by
        intro y23_s0 he
        rw [he] at h
        refine V.istore (lv' := [(5, .int y23_s0), (0, rf Z 65), (1, .int a1), (2, .int a2), (3, .int a3), (4, .int x4)]) d_Mo_laysStrip_33 (by decide) rfl ?_
        refine V.iconst (v := 0) d_Mo_laysStrip_35 (by decide) ?_
        refine V.istore (lv' := [(6, .int 0), (5, .int y23_s0), (0, rf Z 65), (1, .int a1), (2, .int a2), (3, .int a3), (4, .int x4)]) d_Mo_laysStrip_36 (by decide) rfl ?_
        obtain ⟨x38_, h1, h⟩ := bnd1_e h
        refine V.pick [2, 3, 4, 5, 6, 1, 0] rfl (cL_Mo_laysStrip_l38 Z (Good := fun z => x38_ = z) (fun z38_5 he => ?_) N _ _ _ h1 rfl)
        · rw [he] at h
          refine V.aload_n d_Mo_laysStrip_80 rfl 0 rfl ?_
          refine V.iload_n d_Mo_laysStrip_81 rfl 1 rfl ?_
          refine V.iload_n d_Mo_laysStrip_82 rfl 3 rfl ?_
          refine V.iadd d_Mo_laysStrip_83 ?_
          refine V.iload d_Mo_laysStrip_84 4 rfl ?_
          obtain ⟨r86, h1, h⟩ := bnd1_e h
          refine V.vI (as := [.int (a1 + a3), .int x4]) (st := []) (c_Mo_whoOn Z h1) k_Mo_whoOn lk_Mo_373 (by decide) rfl (by decide) ly_65 ok_Mo.1 rfl (Nat.le_of_ble_eq_true rfl) d_Mo_laysStrip_86 ?_
          obtain ⟨s89, h1, h⟩ := bnd1_e h
          have J89_105 : ∀ (y89_s0 : Int32), s89 = y89_s0 → V (mkB Z) Y m_Mo_laysStrip 4 Q 0 0 nC σ 105 [(0, rf Z 65), (1, .int a1), (2, .int a2), (3, .int a3), (4, .int x4), (5, .int z38_5)] [.int y89_s0] := by
            intro y89_s0 he
            rw [he] at h
            refine V.istore (lv' := [(6, .int y89_s0), (0, rf Z 65), (1, .int a1), (2, .int a2), (3, .int a3), (4, .int x4), (5, .int z38_5)]) d_Mo_laysStrip_105 (by decide) rfl ?_
            refine V.aload_n d_Mo_laysStrip_107 rfl 1 rfl ?_
            refine V.getR (r := 89) ok_Mo fl_Mo_81 (by decide) (by decide) ly_65 rfl d_Mo_laysStrip_108 ?_
            refine V.sipush (v := 144) d_Mo_laysStrip_111 (by decide) ?_
            refine V.iload_n d_Mo_laysStrip_114 rfl 4 rfl ?_
            refine V.imul d_Mo_laysStrip_115 ?_
            refine V.iload d_Mo_laysStrip_116 5 rfl ?_
            refine V.iadd d_Mo_laysStrip_118 ?_
            refine V.iload d_Mo_laysStrip_119 0 rfl ?_
            obtain ⟨s121, h1, h⟩ := bnd1_e h
            have J121_145 : ∀ (y121_s2 : Int32) (σ121_ : Mem), s121 = (y121_s2, σ121_) → V (mkB Z) Y m_Mo_laysStrip 4 Q 0 0 nC σ121_ 145 [(0, rf Z 65), (1, .int a1), (2, .int a2), (3, .int a3), (4, .int x4)] [.int y121_s2, .int ((144 * a3) + x4), rf Z 89] := by
              intro y121_s2 σ121_ he
              rw [he] at h
              replace h := q2_e h
              obtain ⟨gq, h⟩ := grd_e h
              obtain ⟨σ145, e_σ145, h⟩ := letv_e h
              refine V.wa (by decide) ly_89 (inb_e gq) rfl d_Mo_laysStrip_145 e_σ145 ?_
              obtain ⟨v146, e_v146, h⟩ := letv_e h
              refine V.iinc (v := v146) (lv' := [(4, .int v146), (0, rf Z 65), (1, .int a1), (2, .int a2), (3, .int a3)]) d_Mo_laysStrip_146 4 rfl (by rw [e_v146]; rfl) (by decide) rfl ?_
              refine V.goto (tgt := 11) d_Mo_laysStrip_149 (by decide) ?_
              exact V.pick [1, 2, 3, 4, 0] rfl (ih _ _ _ h hg)
            replace h := h1
            refine V.if_eq (tgt := 142) d_Mo_laysStrip_121 (by decide) (fun hc121 => ?_) (fun hc121 => ?_)
            · replace h := ite_t hc121 h
              refine V.ldcw (v := 1000000000) kc_Mo_403 d_Mo_laysStrip_142 ?_
              exact V.pick [1, 2, 3, 4, 5] rfl (J121_145 _ _ (Option.some.inj h).symm)
            · replace h := ite_f hc121 h
              refine V.iload d_Mo_laysStrip_124 6 rfl ?_
              refine V.bipush (v := 32) d_Mo_laysStrip_126 (by decide) ?_
              refine V.aload_n d_Mo_laysStrip_128 rfl 1 rfl ?_
              refine V.iload d_Mo_laysStrip_129 5 rfl ?_
              refine V.iload_n d_Mo_laysStrip_131 rfl 2 rfl ?_
              refine V.iload_n d_Mo_laysStrip_132 rfl 4 rfl ?_
              refine V.iadd d_Mo_laysStrip_133 ?_
              obtain ⟨r134, σ134, h1, h⟩ := bnd2_e h
              refine V.vI (as := [.int x4, .int (a1 + a3)]) (st := [.int 32, .int z38_5, .int ((144 * a3) + x4), rf Z 89]) (c_Mo_priceOf Z h1) k_Mo_priceOf lk_Mo_379 (by decide) rfl (by decide) ly_65 ok_Mo.1 rfl (Nat.le_of_ble_eq_true rfl) d_Mo_laysStrip_134 ?_
              refine V.imul d_Mo_laysStrip_137 ?_
              refine V.iadd d_Mo_laysStrip_138 ?_
              refine V.goto (tgt := 145) d_Mo_laysStrip_139 (by decide) ?_
              exact V.pick [1, 2, 3, 4, 5] rfl (J121_145 _ _ (Option.some.inj h).symm)
          replace h := h1
          obtain ⟨s89b, h1, h⟩ := bnd1_e h
          have J89b_104 : s89b = 0 → V (mkB Z) Y m_Mo_laysStrip 4 Q 0 0 nC σ 104 [(0, rf Z 65), (1, .int a1), (2, .int a2), (3, .int a3), (4, .int x4), (5, .int z38_5)] [] := by
            intro he
            rw [he] at h
            replace h := ite_t rfl h
            refine V.iconst (v := 0) d_Mo_laysStrip_104 (by decide) ?_
            exact V.pick [0, 1, 2, 3, 4, 5] rfl (J89_105 _ (Option.some.inj h).symm)
          have J89b_100 : s89b = 1 → V (mkB Z) Y m_Mo_laysStrip 4 Q 0 0 nC σ 100 [(0, rf Z 65), (1, .int a1), (2, .int a2), (3, .int a3), (4, .int x4), (5, .int z38_5)] [] := by
            intro he
            rw [he] at h
            replace h := ite_f (by decide) h
            refine V.iconst (v := 1) d_Mo_laysStrip_100 (by decide) ?_
            refine V.goto (tgt := 105) d_Mo_laysStrip_101 (by decide) ?_
            exact V.pick [0, 1, 2, 3, 4, 5] rfl (J89_105 _ (Option.some.inj h).symm)
          replace h := h1
          refine V.if_eq (tgt := 104) d_Mo_laysStrip_89 (by decide) (fun hc89 => ?_) (fun hc89 => ?_)
          · replace h := ite_t hc89 h
            exact V.pick [0, 1, 2, 3, 4, 5] rfl (J89b_104 (Option.some.inj h).symm)
          · replace h := ite_f hc89 h
            refine V.iload d_Mo_laysStrip_92 5 rfl ?_
            refine V.ldcw (v := 1000000000) kc_Mo_403 d_Mo_laysStrip_94 ?_
            refine V.icmp_ge (tgt := 104) d_Mo_laysStrip_97 (by decide) (fun hc97 => ?_) (fun hc97 => ?_)
            · replace h := ite_t hc97 h
              exact V.pick [0, 1, 2, 3, 4, 5] rfl (J89b_104 (Option.some.inj h).symm)
            · replace h := ite_f hc97 h
              exact V.pick [0, 1, 2, 3, 4, 5] rfl (J89b_100 (Option.some.inj h).symm)
      replace h := h1
      refine V.icmp_ne (tgt := 30) d_Mo_laysStrip_23 (by decide) (fun hc23 => ?_) (fun hc23 => ?_)
      · replace h := ite_f hc23 h
        refine V.ldcw (v := 1000000000) kc_Mo_403 d_Mo_laysStrip_30 ?_
        exact V.pick [0, 1, 2, 3, 4] rfl (J23_33 _ (Option.some.inj h).symm)
      · replace h := ite_t hc23 h
        refine V.iconst (v := 0) d_Mo_laysStrip_26 (by decide) ?_
        refine V.goto (tgt := 33) d_Mo_laysStrip_27 (by decide) ?_
        exact V.pick [0, 1, 2, 3, 4] rfl (J23_33 _ (Option.some.inj h).symm)
def B_Mo_laysStrip_l4 (N : Nat) (a1 : Int32) (a2 : Int32) (rec : Int32 → Mem → Option (Mem)) (x3 : Int32) (σ : Mem) : Option (Mem) :=
  if x3 < 0 then
    (some σ)
  else
    (bnd1 (L_Mo_laysStrip_l11 N a1 a2 x3 N 0 σ) fun σ11_ =>
    letv (x3 + (-1)) fun v152 =>
    rec v152 σ11_)
def L_Mo_laysStrip_l4 (N : Nat) (a1 : Int32) (a2 : Int32) : Nat → Int32 → Mem → Option (Mem)
  | 0, _, _ => none
  | k + 1, x3, σ => B_Mo_laysStrip_l4 N a1 a2 (L_Mo_laysStrip_l4 N a1 a2 k) x3 σ
set_option maxHeartbeats 4000000 in
set_option maxRecDepth 20000 in
theorem cL_Mo_laysStrip_l4 (Z : ZX) {Y : YX} {post : Option Value → Mem → Prop} {N : Nat} {a1 : Int32} {a2 : Int32} {Good : Mem → Prop} (hR : ∀ (σr : Mem), Good σr → post none σr) : ∀ (k : Nat) (x3 : Int32) (σ : Mem) (res : Mem), L_Mo_laysStrip_l4 N a1 a2 k x3 σ = some res → Good res → V (mkB Z) Y m_Mo_laysStrip 4 (QP (mkB Z) Y nC 0 0 post) 0 0 nC σ 4 [(0, rf Z 65), (1, .int a1), (2, .int a2), (3, .int x3)] [] := by
  intro k
  induction k with
  | zero => intro x3 σ res h; cases h
  | succ k ih =>
    intro x3 σ res h hg
    replace h : B_Mo_laysStrip_l4 N a1 a2 (L_Mo_laysStrip_l4 N a1 a2 k) x3 σ = some res := h
    unfold B_Mo_laysStrip_l4 at h
    refine V.iload_n d_Mo_laysStrip_4 rfl 3 rfl ?_
    refine V.if_lt (tgt := 158) d_Mo_laysStrip_5 (by decide) (fun hc5 => ?_) (fun hc5 => ?_)
    · replace h := ite_t hc5 h
      cases h
      exact V.vret rfl d_Mo_laysStrip_158 (hR _ hg)
    · replace h := ite_f hc5 h
      refine V.iconst (v := 0) d_Mo_laysStrip_8 (by decide) ?_
      refine V.istore (lv' := [(4, .int 0), (0, rf Z 65), (1, .int a1), (2, .int a2), (3, .int x3)]) d_Mo_laysStrip_9 (by decide) rfl ?_
      obtain ⟨x11_, h1, h⟩ := bnd1_e h
      refine V.pick [1, 2, 3, 4, 0] rfl (cL_Mo_laysStrip_l11 Z (Good := fun z => x11_ = z) (fun σ11_ he => ?_) N _ _ _ h1 rfl)
      · rw [he] at h
        obtain ⟨v152, e_v152, h⟩ := letv_e h
        refine V.iinc (v := v152) (lv' := [(3, .int v152), (0, rf Z 65), (1, .int a1), (2, .int a2)]) d_Mo_laysStrip_152 3 rfl (by rw [e_v152]; rfl) (by decide) rfl ?_
        refine V.goto (tgt := 4) d_Mo_laysStrip_155 (by decide) ?_
        exact V.pick [1, 2, 3, 0] rfl (ih _ _ _ h hg)
def f_Mo_laysStrip (N : Nat) (σ : Mem) (a1 : Int32) (a2 : Int32) : Option (Mem) :=
  letv (a2 - 1) fun v3 =>
  L_Mo_laysStrip_l4 N a1 a2 N v3 σ
set_option maxHeartbeats 4000000 in
set_option maxRecDepth 20000 in
theorem c_Mo_laysStrip (Z : ZX) {N : Nat} {σ : Mem} {a1 : Int32} {a2 : Int32} {σ' : Mem} (h : f_Mo_laysStrip N σ a1 a2 = some σ') : CN Z 4 m_Mo_laysStrip [rf Z 65, .int a1, .int a2] σ σ' := by
  refine Ct.of (by decide +kernel) (Nat.le_of_ble_eq_true rfl) (fun Y => ?_)
  show V (mkB Z) Y m_Mo_laysStrip 4 (QP (mkB Z) Y nC 0 0 (fun v t => v = none ∧ t = σ')) 0 0 nC σ 0 [(0, rf Z 65), (1, .int a1), (2, .int a2)] []
  unfold f_Mo_laysStrip at h
  refine V.iload_n d_Mo_laysStrip_0 rfl 2 rfl ?_
  refine V.iconst (v := 1) d_Mo_laysStrip_1 (by decide) ?_
  refine V.isub d_Mo_laysStrip_2 ?_
  obtain ⟨v3, e_v3, h⟩ := letv_e h
  refine V.topI e_v3 ?_
  refine V.istore_n (lv' := [(3, .int v3), (0, rf Z 65), (1, .int a1), (2, .int a2)]) d_Mo_laysStrip_3 rfl (by decide) rfl ?_
  refine V.pick [1, 2, 3, 0] rfl (cL_Mo_laysStrip_l4 Z (Good := fun z => z = _) (fun r4m he => ?_) N _ _ _ h rfl)
  · cases he
    exact ⟨rfl, rfl⟩
abbrev m_Mo_isBeside : MI := (⟨"ShadeTownModel", "isBeside", "(II)Z"⟩, prog_13_method_77_code, 2, (Option.some Jvm.ClassFile.FieldType.boolean))
theorem d_Mo_isBeside_0 : decode prog_13_method_77_code 0 = .ok (.iload_n 0, 1) := by decide +kernel
theorem d_Mo_isBeside_1 : decode prog_13_method_77_code 1 = .ok (.bipush 12, 2) := by decide +kernel
theorem d_Mo_isBeside_3 : decode prog_13_method_77_code 3 = .ok (.irem, 1) := by decide +kernel
theorem d_Mo_isBeside_4 : decode prog_13_method_77_code 4 = .ok (.iload_n 1, 1) := by decide +kernel
theorem d_Mo_isBeside_5 : decode prog_13_method_77_code 5 = .ok (.bipush 12, 2) := by decide +kernel
theorem d_Mo_isBeside_7 : decode prog_13_method_77_code 7 = .ok (.irem, 1) := by decide +kernel
theorem d_Mo_isBeside_8 : decode prog_13_method_77_code 8 = .ok (.isub, 1) := by decide +kernel
theorem d_Mo_isBeside_9 : decode prog_13_method_77_code 9 = .ok (.invokestatic 336, 3) := by decide +kernel
theorem d_Mo_isBeside_12 : decode prog_13_method_77_code 12 = .ok (.iload_n 0, 1) := by decide +kernel
theorem d_Mo_isBeside_13 : decode prog_13_method_77_code 13 = .ok (.bipush 12, 2) := by decide +kernel
theorem d_Mo_isBeside_15 : decode prog_13_method_77_code 15 = .ok (.idiv, 1) := by decide +kernel
theorem d_Mo_isBeside_16 : decode prog_13_method_77_code 16 = .ok (.iload_n 1, 1) := by decide +kernel
theorem d_Mo_isBeside_17 : decode prog_13_method_77_code 17 = .ok (.bipush 12, 2) := by decide +kernel
theorem d_Mo_isBeside_19 : decode prog_13_method_77_code 19 = .ok (.idiv, 1) := by decide +kernel
theorem d_Mo_isBeside_20 : decode prog_13_method_77_code 20 = .ok (.isub, 1) := by decide +kernel
theorem d_Mo_isBeside_21 : decode prog_13_method_77_code 21 = .ok (.invokestatic 336, 3) := by decide +kernel
theorem d_Mo_isBeside_24 : decode prog_13_method_77_code 24 = .ok (.iadd, 1) := by decide +kernel
theorem d_Mo_isBeside_25 : decode prog_13_method_77_code 25 = .ok (.iconst 2, 1) := by decide +kernel
theorem d_Mo_isBeside_33 : decode prog_13_method_77_code 33 = .ok (.iconst 0, 1) := by decide +kernel
theorem d_Mo_isBeside_34 : decode prog_13_method_77_code 34 = .ok (.ireturn, 1) := by decide +kernel
theorem d_Mo_isBeside_29 : decode prog_13_method_77_code 29 = .ok (.iconst 1, 1) := by decide +kernel
theorem d_Mo_isBeside_30 : decode prog_13_method_77_code 30 = .ok (.goto 4, 3) := by decide +kernel
theorem d_Mo_isBeside_26 : decode prog_13_method_77_code 26 = .ok (.if_icmp .ge 7, 3) := by decide +kernel
def f_Mo_isBeside (a0 : Int32) (a1 : Int32) : Option (Int32) :=
  bnd1 (f_Mo_size ((a0 - a0 / 12 * 12) - (a1 - a1 / 12 * 12))) fun r9 =>
  bnd1 (f_Mo_size ((a0 / 12) - (a1 / 12))) fun r21 =>
  if 2 ≤ (r9 + r21) then
    (some 0)
  else
    (some 1)
set_option maxHeartbeats 4000000 in
set_option maxRecDepth 20000 in
theorem c_Mo_isBeside (Z : ZX) {σ : Mem} {a0 : Int32} {a1 : Int32} {r : Int32} (h : f_Mo_isBeside a0 a1 = some r) : CI Z 1 m_Mo_isBeside [.int a0, .int a1] σ r σ := by
  refine Ct.of (by decide +kernel) (Nat.le_of_ble_eq_true rfl) (fun Y => ?_)
  show V (mkB Z) Y m_Mo_isBeside 1 (QP (mkB Z) Y nC 0 0 (fun v t => v = some (.int r) ∧ t = σ)) 0 0 nC σ 0 [(0, .int a0), (1, .int a1)] []
  unfold f_Mo_isBeside at h
  refine V.iload_n d_Mo_isBeside_0 rfl 0 rfl ?_
  refine V.bipush (v := 12) d_Mo_isBeside_1 (by decide) ?_
  refine V.irem d_Mo_isBeside_3 (by decide) ?_
  refine V.iload_n d_Mo_isBeside_4 rfl 1 rfl ?_
  refine V.bipush (v := 12) d_Mo_isBeside_5 (by decide) ?_
  refine V.irem d_Mo_isBeside_7 (by decide) ?_
  refine V.isub d_Mo_isBeside_8 ?_
  obtain ⟨r9, h1, h⟩ := bnd1_e h
  refine V.sI (as := [.int ((a0 - a0 / 12 * 12) - (a1 - a1 / 12 * 12))]) (st := []) (c_Mo_size Z h1) k_Mo_size lk_Mo_336 (by decide) rfl rfl (Nat.le_of_ble_eq_true rfl) d_Mo_isBeside_9 ?_
  refine V.iload_n d_Mo_isBeside_12 rfl 0 rfl ?_
  refine V.bipush (v := 12) d_Mo_isBeside_13 (by decide) ?_
  refine V.idiv d_Mo_isBeside_15 (by decide) ?_
  refine V.iload_n d_Mo_isBeside_16 rfl 1 rfl ?_
  refine V.bipush (v := 12) d_Mo_isBeside_17 (by decide) ?_
  refine V.idiv d_Mo_isBeside_19 (by decide) ?_
  refine V.isub d_Mo_isBeside_20 ?_
  obtain ⟨r21, h1, h⟩ := bnd1_e h
  refine V.sI (as := [.int ((a0 / 12) - (a1 / 12))]) (st := [.int r9]) (c_Mo_size Z h1) k_Mo_size lk_Mo_336 (by decide) rfl rfl (Nat.le_of_ble_eq_true rfl) d_Mo_isBeside_21 ?_
  refine V.iadd d_Mo_isBeside_24 ?_
  refine V.iconst (v := 2) d_Mo_isBeside_25 (by decide) ?_
  refine V.icmp_ge (tgt := 33) d_Mo_isBeside_26 (by decide) (fun hc26 => ?_) (fun hc26 => ?_)
  · replace h := ite_t hc26 h
    refine V.iconst (v := 0) d_Mo_isBeside_33 (by decide) ?_
    cases h
    exact V.zret rfl rfl d_Mo_isBeside_34 ⟨rfl, rfl⟩
  · replace h := ite_f hc26 h
    refine V.iconst (v := 1) d_Mo_isBeside_29 (by decide) ?_
    refine V.goto (tgt := 34) d_Mo_isBeside_30 (by decide) ?_
    cases h
    exact V.zret rfl rfl d_Mo_isBeside_34 ⟨rfl, rfl⟩
abbrev m_Mo_nextStrip : MI := (⟨"ShadeTownModel", "nextStrip", "(III)I"⟩, prog_13_method_76_code, 5, (Option.some Jvm.ClassFile.FieldType.int))
theorem d_Mo_nextStrip_0 : decode prog_13_method_76_code 0 = .ok (.iconst 0, 1) := by decide +kernel
theorem d_Mo_nextStrip_1 : decode prog_13_method_76_code 1 = .ok (.istore 4, 2) := by decide +kernel
theorem d_Mo_nextStrip_3 : decode prog_13_method_76_code 3 = .ok (.iload_n 2, 1) := by decide +kernel
theorem d_Mo_nextStrip_4 : decode prog_13_method_76_code 4 = .ok (.iconst (-1), 1) := by decide +kernel
theorem d_Mo_nextStrip_28 : decode prog_13_method_76_code 28 = .ok (.iload_n 2, 1) := by decide +kernel
theorem d_Mo_nextStrip_29 : decode prog_13_method_76_code 29 = .ok (.iload 4, 2) := by decide +kernel
theorem d_Mo_nextStrip_31 : decode prog_13_method_76_code 31 = .ok (.invokestatic 410, 3) := by decide +kernel
theorem k_Mo_isBeside : MOk m_Mo_isBeside 2 ∧ Cond.static m_Mo_isBeside.1 ∈ tblG := ⟨⟨atG 1865 (by decide +kernel) rfl, atG 122 (by decide +kernel) rfl, ⟨by decide, by decide⟩, by decide +kernel, by decide⟩, atG 1864 (by decide +kernel) rfl⟩
theorem lk_Mo_410 : Cond.methodLink "ShadeTownModel" 410 ⟨"ShadeTownModel", "isBeside", "(II)Z"⟩ ∈ tblG := atG 1863 (by decide +kernel) rfl
theorem d_Mo_nextStrip_37 : decode prog_13_method_76_code 37 = .ok (.aload_n 0, 1) := by decide +kernel
theorem d_Mo_nextStrip_38 : decode prog_13_method_76_code 38 = .ok (.iload_n 1, 1) := by decide +kernel
theorem d_Mo_nextStrip_39 : decode prog_13_method_76_code 39 = .ok (.iload_n 2, 1) := by decide +kernel
theorem d_Mo_nextStrip_40 : decode prog_13_method_76_code 40 = .ok (.iload 4, 2) := by decide +kernel
theorem d_Mo_nextStrip_42 : decode prog_13_method_76_code 42 = .ok (.invokevirtual 407, 3) := by decide +kernel
theorem d_Mo_nextStrip_45 : decode prog_13_method_76_code 45 = .ok (.iload_n 3, 1) := by decide +kernel
theorem d_Mo_nextStrip_46 : decode prog_13_method_76_code 46 = .ok (.if_icmp .eq 12, 3) := by decide +kernel
theorem d_Mo_nextStrip_34 : decode prog_13_method_76_code 34 = .ok (.ifCond .eq 15, 3) := by decide +kernel
theorem d_Mo_nextStrip_8 : decode prog_13_method_76_code 8 = .ok (.aload_n 0, 1) := by decide +kernel
theorem d_Mo_nextStrip_9 : decode prog_13_method_76_code 9 = .ok (.getfield 81, 3) := by decide +kernel
theorem d_Mo_nextStrip_12 : decode prog_13_method_76_code 12 = .ok (.sipush 144, 3) := by decide +kernel
theorem d_Mo_nextStrip_15 : decode prog_13_method_76_code 15 = .ok (.iload_n 1, 1) := by decide +kernel
theorem d_Mo_nextStrip_16 : decode prog_13_method_76_code 16 = .ok (.imul, 1) := by decide +kernel
theorem d_Mo_nextStrip_17 : decode prog_13_method_76_code 17 = .ok (.iload 4, 2) := by decide +kernel
theorem d_Mo_nextStrip_19 : decode prog_13_method_76_code 19 = .ok (.iadd, 1) := by decide +kernel
theorem d_Mo_nextStrip_20 : decode prog_13_method_76_code 20 = .ok (.iaload, 1) := by decide +kernel
theorem d_Mo_nextStrip_21 : decode prog_13_method_76_code 21 = .ok (.iload_n 3, 1) := by decide +kernel
theorem d_Mo_nextStrip_25 : decode prog_13_method_76_code 25 = .ok (.goto 24, 3) := by decide +kernel
theorem d_Mo_nextStrip_22 : decode prog_13_method_76_code 22 = .ok (.if_icmp .eq 36, 3) := by decide +kernel
theorem d_Mo_nextStrip_5 : decode prog_13_method_76_code 5 = .ok (.if_icmp .ne 23, 3) := by decide +kernel
theorem d_Mo_nextStrip_49 : decode prog_13_method_76_code 49 = .ok (.iload 4, 2) := by decide +kernel
theorem d_Mo_nextStrip_51 : decode prog_13_method_76_code 51 = .ok (.iconst 1, 1) := by decide +kernel
theorem d_Mo_nextStrip_52 : decode prog_13_method_76_code 52 = .ok (.iadd, 1) := by decide +kernel
theorem d_Mo_nextStrip_53 : decode prog_13_method_76_code 53 = .ok (.istore 4, 2) := by decide +kernel
theorem d_Mo_nextStrip_55 : decode prog_13_method_76_code 55 = .ok (.goto (-52), 3) := by decide +kernel
theorem d_Mo_nextStrip_58 : decode prog_13_method_76_code 58 = .ok (.iload 4, 2) := by decide +kernel
theorem d_Mo_nextStrip_60 : decode prog_13_method_76_code 60 = .ok (.ireturn, 1) := by decide +kernel
def B_Mo_nextStrip_l3 (N : Nat) (a1 : Int32) (a2 : Int32) (a3 : Int32) (σ : Mem) (rec : Int32 → Option (Int32)) (x4 : Int32) : Option (Int32) :=
  bnd1 ((
    if a2 = (-1) then
      (grd (inb ((144 * a1) + x4) 1728) <|
      if (mI σ 89 (((144 * a1) + x4).toNatClampNeg)) = a3 then
        (some 1)
      else
        (some 0))
    else
      (bnd1 (f_Mo_isBeside a2 x4) fun r31 =>
      if r31 = 0 then
        (some 0)
      else
        (bnd1 (f_Mo_goesBy σ a1 a2 x4) fun r42 =>
        if r42 = a3 then
          (some 1)
        else
          (some 0)))) : Option (Nat)) fun t5b =>
  if t5b = 0 then
    (letv (x4 + 1) fun v53 =>
    rec v53)
  else
  (some x4)
def L_Mo_nextStrip_l3 (N : Nat) (a1 : Int32) (a2 : Int32) (a3 : Int32) (σ : Mem) : Nat → Int32 → Option (Int32)
  | 0, _ => none
  | k + 1, x4 => B_Mo_nextStrip_l3 N a1 a2 a3 σ (L_Mo_nextStrip_l3 N a1 a2 a3 σ k) x4
set_option maxHeartbeats 4000000 in
set_option maxRecDepth 20000 in
theorem cL_Mo_nextStrip_l3 (Z : ZX) {Y : YX} {Q : State → Prop} {N : Nat} {a1 : Int32} {a2 : Int32} {a3 : Int32} {σ : Mem} {Good : Int32 → Prop} (hE : ∀ (o4 : Int32), Good o4 → V (mkB Z) Y m_Mo_nextStrip 2 Q 0 0 nC σ 58 [(4, .int o4)] []) : ∀ (k : Nat) (x4 : Int32) (res : Int32), L_Mo_nextStrip_l3 N a1 a2 a3 σ k x4 = some res → Good res → V (mkB Z) Y m_Mo_nextStrip 2 Q 0 0 nC σ 3 [(0, rf Z 65), (1, .int a1), (2, .int a2), (3, .int a3), (4, .int x4)] [] := by
  intro k
  induction k with
  | zero => intro x4 res h; cases h
  | succ k ih =>
    intro x4 res h hg
    replace h : B_Mo_nextStrip_l3 N a1 a2 a3 σ (L_Mo_nextStrip_l3 N a1 a2 a3 σ k) x4 = some res := h
    unfold B_Mo_nextStrip_l3 at h
    refine V.iload_n d_Mo_nextStrip_3 rfl 2 rfl ?_
    refine V.iconst (v := (-1)) d_Mo_nextStrip_4 (by decide) ?_
    obtain ⟨s5b, h1, h⟩ := bnd1_e h
    have J5b_49 : s5b = 0 → V (mkB Z) Y m_Mo_nextStrip 2 Q 0 0 nC σ 49 [(0, rf Z 65), (1, .int a1), (2, .int a2), (3, .int a3), (4, .int x4)] [] := by
      intro he
      rw [he] at h
      replace h := ite_t rfl h
      refine V.iload d_Mo_nextStrip_49 4 rfl ?_
      refine V.iconst (v := 1) d_Mo_nextStrip_51 (by decide) ?_
      refine V.iadd d_Mo_nextStrip_52 ?_
      obtain ⟨v53, e_v53, h⟩ := letv_e h
      refine V.topI e_v53 ?_
      refine V.istore (lv' := [(4, .int v53), (0, rf Z 65), (1, .int a1), (2, .int a2), (3, .int a3)]) d_Mo_nextStrip_53 (by decide) rfl ?_
      refine V.goto (tgt := 3) d_Mo_nextStrip_55 (by decide) ?_
      exact V.pick [1, 2, 3, 4, 0] rfl (ih _ _ h hg)
    have J5b_58 : s5b = 1 → V (mkB Z) Y m_Mo_nextStrip 2 Q 0 0 nC σ 58 [(4, .int x4)] [] := by
      intro he
      rw [he] at h
      replace h := ite_f (by decide) h
      cases h
      exact V.pick [0] rfl (hE _ hg)
    replace h := h1
    refine V.icmp_ne (tgt := 28) d_Mo_nextStrip_5 (by decide) (fun hc5 => ?_) (fun hc5 => ?_)
    · replace h := ite_f hc5 h
      refine V.iload_n d_Mo_nextStrip_28 rfl 2 rfl ?_
      refine V.iload d_Mo_nextStrip_29 4 rfl ?_
      obtain ⟨r31, h1, h⟩ := bnd1_e h
      refine V.sI (as := [.int a2, .int x4]) (st := []) (c_Mo_isBeside Z h1) k_Mo_isBeside lk_Mo_410 (by decide) rfl rfl (Nat.le_of_ble_eq_true rfl) d_Mo_nextStrip_31 ?_
      refine V.if_eq (tgt := 49) d_Mo_nextStrip_34 (by decide) (fun hc34 => ?_) (fun hc34 => ?_)
      · replace h := ite_t hc34 h
        exact V.pick [0, 1, 2, 3, 4] rfl (J5b_49 (Option.some.inj h).symm)
      · replace h := ite_f hc34 h
        refine V.aload_n d_Mo_nextStrip_37 rfl 0 rfl ?_
        refine V.iload_n d_Mo_nextStrip_38 rfl 1 rfl ?_
        refine V.iload_n d_Mo_nextStrip_39 rfl 2 rfl ?_
        refine V.iload d_Mo_nextStrip_40 4 rfl ?_
        obtain ⟨r42, h1, h⟩ := bnd1_e h
        refine V.vI (as := [.int a1, .int a2, .int x4]) (st := []) (c_Mo_goesBy Z h1) k_Mo_goesBy lk_Mo_407 (by decide) rfl (by decide) ly_65 ok_Mo.1 rfl (Nat.le_of_ble_eq_true rfl) d_Mo_nextStrip_42 ?_
        refine V.iload_n d_Mo_nextStrip_45 rfl 3 rfl ?_
        refine V.icmp_eq (tgt := 58) d_Mo_nextStrip_46 (by decide) (fun hc46 => ?_) (fun hc46 => ?_)
        · replace h := ite_t hc46 h
          exact V.pick [4] rfl (J5b_58 (Option.some.inj h).symm)
        · replace h := ite_f hc46 h
          exact V.pick [0, 1, 2, 3, 4] rfl (J5b_49 (Option.some.inj h).symm)
    · replace h := ite_t hc5 h
      refine V.aload_n d_Mo_nextStrip_8 rfl 0 rfl ?_
      refine V.getR (r := 89) ok_Mo fl_Mo_81 (by decide) (by decide) ly_65 rfl d_Mo_nextStrip_9 ?_
      refine V.sipush (v := 144) d_Mo_nextStrip_12 (by decide) ?_
      refine V.iload_n d_Mo_nextStrip_15 rfl 1 rfl ?_
      refine V.imul d_Mo_nextStrip_16 ?_
      refine V.iload d_Mo_nextStrip_17 4 rfl ?_
      refine V.iadd d_Mo_nextStrip_19 ?_
      obtain ⟨gq, h⟩ := grd_e h
      refine V.ra (by decide) ly_89 (inb_e gq) rfl d_Mo_nextStrip_20 ?_
      refine V.iload_n d_Mo_nextStrip_21 rfl 3 rfl ?_
      refine V.icmp_eq (tgt := 58) d_Mo_nextStrip_22 (by decide) (fun hc22 => ?_) (fun hc22 => ?_)
      · replace h := ite_t hc22 h
        exact V.pick [4] rfl (J5b_58 (Option.some.inj h).symm)
      · replace h := ite_f hc22 h
        refine V.goto (tgt := 49) d_Mo_nextStrip_25 (by decide) ?_
        exact V.pick [0, 1, 2, 3, 4] rfl (J5b_49 (Option.some.inj h).symm)
def f_Mo_nextStrip (N : Nat) (σ : Mem) (a1 : Int32) (a2 : Int32) (a3 : Int32) : Option (Int32) :=
  bnd1 (L_Mo_nextStrip_l3 N a1 a2 a3 σ N 0) fun z3_4 =>
  some z3_4
set_option maxHeartbeats 4000000 in
set_option maxRecDepth 20000 in
theorem c_Mo_nextStrip (Z : ZX) {N : Nat} {σ : Mem} {a1 : Int32} {a2 : Int32} {a3 : Int32} {r : Int32} (h : f_Mo_nextStrip N σ a1 a2 a3 = some r) : CI Z 2 m_Mo_nextStrip [rf Z 65, .int a1, .int a2, .int a3] σ r σ := by
  refine Ct.of (by decide +kernel) (Nat.le_of_ble_eq_true rfl) (fun Y => ?_)
  show V (mkB Z) Y m_Mo_nextStrip 2 (QP (mkB Z) Y nC 0 0 (fun v t => v = some (.int r) ∧ t = σ)) 0 0 nC σ 0 [(0, rf Z 65), (1, .int a1), (2, .int a2), (3, .int a3)] []
  unfold f_Mo_nextStrip at h
  refine V.iconst (v := 0) d_Mo_nextStrip_0 (by decide) ?_
  refine V.istore (lv' := [(4, .int 0), (0, rf Z 65), (1, .int a1), (2, .int a2), (3, .int a3)]) d_Mo_nextStrip_1 (by decide) rfl ?_
  obtain ⟨x3_, h1, h⟩ := bnd1_e h
  refine V.pick [1, 2, 3, 4, 0] rfl (cL_Mo_nextStrip_l3 Z (Good := fun z => x3_ = z) (fun z3_4 he => ?_) N _ _ h1 rfl)
  · rw [he] at h
    refine V.iload d_Mo_nextStrip_58 0 rfl ?_
    cases h
    exact V.iret rfl d_Mo_nextStrip_60 ⟨rfl, rfl⟩
abbrev m_Mo_strip : MI := (⟨"ShadeTownModel", "strip", "(III)I"⟩, prog_13_method_78_code, 8, (Option.some Jvm.ClassFile.FieldType.int))
theorem d_Mo_strip_0 : decode prog_13_method_78_code 0 = .ok (.iload_n 1, 1) := by decide +kernel
theorem d_Mo_strip_1 : decode prog_13_method_78_code 1 = .ok (.invokestatic 321, 3) := by decide +kernel
theorem d_Mo_strip_7 : decode prog_13_method_78_code 7 = .ok (.iload_n 2, 1) := by decide +kernel
theorem d_Mo_strip_8 : decode prog_13_method_78_code 8 = .ok (.iload_n 1, 1) := by decide +kernel
theorem d_Mo_strip_9 : decode prog_13_method_78_code 9 = .ok (.iconst 1, 1) := by decide +kernel
theorem d_Mo_strip_10 : decode prog_13_method_78_code 10 = .ok (.iadd, 1) := by decide +kernel
theorem d_Mo_strip_11 : decode prog_13_method_78_code 11 = .ok (.bipush 24, 2) := by decide +kernel
theorem d_Mo_strip_13 : decode prog_13_method_78_code 13 = .ok (.invokestatic 188, 3) := by decide +kernel
theorem d_Mo_strip_19 : decode prog_13_method_78_code 19 = .ok (.iload_n 2, 1) := by decide +kernel
theorem d_Mo_strip_20 : decode prog_13_method_78_code 20 = .ok (.iload_n 1, 1) := by decide +kernel
theorem d_Mo_strip_21 : decode prog_13_method_78_code 21 = .ok (.isub, 1) := by decide +kernel
theorem d_Mo_strip_22 : decode prog_13_method_78_code 22 = .ok (.bipush 12, 2) := by decide +kernel
theorem d_Mo_strip_27 : decode prog_13_method_78_code 27 = .ok (.iload_n 3, 1) := by decide +kernel
theorem d_Mo_strip_28 : decode prog_13_method_78_code 28 = .ok (.iconst (-1), 1) := by decide +kernel
theorem d_Mo_strip_32 : decode prog_13_method_78_code 32 = .ok (.iload_n 3, 1) := by decide +kernel
theorem d_Mo_strip_33 : decode prog_13_method_78_code 33 = .ok (.bipush 30, 2) := by decide +kernel
theorem d_Mo_strip_38 : decode prog_13_method_78_code 38 = .ok (.iload_n 3, 1) := by decide +kernel
theorem d_Mo_strip_39 : decode prog_13_method_78_code 39 = .ok (.iload_n 1, 1) := by decide +kernel
theorem d_Mo_strip_40 : decode prog_13_method_78_code 40 = .ok (.iload_n 2, 1) := by decide +kernel
theorem d_Mo_strip_41 : decode prog_13_method_78_code 41 = .ok (.iconst 1, 1) := by decide +kernel
theorem d_Mo_strip_42 : decode prog_13_method_78_code 42 = .ok (.isub, 1) := by decide +kernel
theorem d_Mo_strip_43 : decode prog_13_method_78_code 43 = .ok (.invokestatic 188, 3) := by decide +kernel
theorem d_Mo_strip_46 : decode prog_13_method_78_code 46 = .ok (.ifCond .ne 6, 3) := by decide +kernel
theorem d_Mo_strip_35 : decode prog_13_method_78_code 35 = .ok (.if_icmp .eq 17, 3) := by decide +kernel
theorem d_Mo_strip_29 : decode prog_13_method_78_code 29 = .ok (.if_icmp .eq 23, 3) := by decide +kernel
theorem d_Mo_strip_24 : decode prog_13_method_78_code 24 = .ok (.if_icmp .gt 25, 3) := by decide +kernel
theorem d_Mo_strip_16 : decode prog_13_method_78_code 16 = .ok (.ifCond .eq 33, 3) := by decide +kernel
theorem d_Mo_strip_4 : decode prog_13_method_78_code 4 = .ok (.ifCond .eq 45, 3) := by decide +kernel
theorem d_Mo_strip_49 : decode prog_13_method_78_code 49 = .ok (.bipush (-3), 2) := by decide +kernel
theorem d_Mo_strip_51 : decode prog_13_method_78_code 51 = .ok (.ireturn, 1) := by decide +kernel
theorem d_Mo_strip_52 : decode prog_13_method_78_code 52 = .ok (.aload_n 0, 1) := by decide +kernel
theorem d_Mo_strip_53 : decode prog_13_method_78_code 53 = .ok (.invokevirtual 370, 3) := by decide +kernel
theorem d_Mo_strip_56 : decode prog_13_method_78_code 56 = .ok (.iload_n 2, 1) := by decide +kernel
theorem d_Mo_strip_57 : decode prog_13_method_78_code 57 = .ok (.iload_n 1, 1) := by decide +kernel
theorem d_Mo_strip_58 : decode prog_13_method_78_code 58 = .ok (.isub, 1) := by decide +kernel
theorem d_Mo_strip_59 : decode prog_13_method_78_code 59 = .ok (.istore 4, 2) := by decide +kernel
theorem d_Mo_strip_61 : decode prog_13_method_78_code 61 = .ok (.aload_n 0, 1) := by decide +kernel
theorem d_Mo_strip_62 : decode prog_13_method_78_code 62 = .ok (.iload_n 1, 1) := by decide +kernel
theorem d_Mo_strip_63 : decode prog_13_method_78_code 63 = .ok (.iload 4, 2) := by decide +kernel
theorem d_Mo_strip_65 : decode prog_13_method_78_code 65 = .ok (.invokevirtual 413, 3) := by decide +kernel
theorem k_Mo_laysStrip : MOk m_Mo_laysStrip 2 ∧ IOk m_Mo_laysStrip := ⟨⟨atG 1850 (by decide +kernel) rfl, atG 122 (by decide +kernel) rfl, ⟨by decide, by decide⟩, by decide +kernel, by decide⟩, atG 1849 (by decide +kernel) rfl, atG 83 (by decide +kernel) rfl⟩
theorem lk_Mo_413 : Cond.methodLink "ShadeTownModel" 413 ⟨"ShadeTownModel", "laysStrip", "(II)V"⟩ ∈ tblG := atG 1847 (by decide +kernel) rfl
theorem d_Mo_strip_68 : decode prog_13_method_78_code 68 = .ok (.ldc_w 403, 3) := by decide +kernel
theorem d_Mo_strip_71 : decode prog_13_method_78_code 71 = .ok (.istore 5, 2) := by decide +kernel
theorem d_Mo_strip_73 : decode prog_13_method_78_code 73 = .ok (.iconst 0, 1) := by decide +kernel
theorem d_Mo_strip_74 : decode prog_13_method_78_code 74 = .ok (.istore 6, 2) := by decide +kernel
theorem d_Mo_strip_76 : decode prog_13_method_78_code 76 = .ok (.iload 6, 2) := by decide +kernel
theorem d_Mo_strip_78 : decode prog_13_method_78_code 78 = .ok (.sipush 144, 3) := by decide +kernel
theorem d_Mo_strip_84 : decode prog_13_method_78_code 84 = .ok (.iload 5, 2) := by decide +kernel
theorem d_Mo_strip_86 : decode prog_13_method_78_code 86 = .ok (.aload_n 0, 1) := by decide +kernel
theorem d_Mo_strip_87 : decode prog_13_method_78_code 87 = .ok (.getfield 81, 3) := by decide +kernel
theorem d_Mo_strip_90 : decode prog_13_method_78_code 90 = .ok (.iload 6, 2) := by decide +kernel
theorem d_Mo_strip_92 : decode prog_13_method_78_code 92 = .ok (.iaload, 1) := by decide +kernel
theorem d_Mo_strip_93 : decode prog_13_method_78_code 93 = .ok (.invokestatic 342, 3) := by decide +kernel
theorem d_Mo_strip_96 : decode prog_13_method_78_code 96 = .ok (.istore 5, 2) := by decide +kernel
theorem d_Mo_strip_98 : decode prog_13_method_78_code 98 = .ok (.iinc 6 1, 3) := by decide +kernel
theorem d_Mo_strip_101 : decode prog_13_method_78_code 101 = .ok (.goto (-25), 3) := by decide +kernel
theorem d_Mo_strip_81 : decode prog_13_method_78_code 81 = .ok (.if_icmp .ge 23, 3) := by decide +kernel
theorem d_Mo_strip_104 : decode prog_13_method_78_code 104 = .ok (.iload 5, 2) := by decide +kernel
theorem d_Mo_strip_106 : decode prog_13_method_78_code 106 = .ok (.ldc_w 403, 3) := by decide +kernel
theorem d_Mo_strip_115 : decode prog_13_method_78_code 115 = .ok (.iload_n 3, 1) := by decide +kernel
theorem d_Mo_strip_116 : decode prog_13_method_78_code 116 = .ok (.iconst (-1), 1) := by decide +kernel
theorem d_Mo_strip_126 : decode prog_13_method_78_code 126 = .ok (.iload_n 3, 1) := by decide +kernel
theorem d_Mo_strip_127 : decode prog_13_method_78_code 127 = .ok (.bipush 30, 2) := by decide +kernel
theorem d_Mo_strip_138 : decode prog_13_method_78_code 138 = .ok (.iconst (-1), 1) := by decide +kernel
theorem d_Mo_strip_139 : decode prog_13_method_78_code 139 = .ok (.istore 6, 2) := by decide +kernel
theorem d_Mo_strip_141 : decode prog_13_method_78_code 141 = .ok (.iconst 0, 1) := by decide +kernel
theorem d_Mo_strip_142 : decode prog_13_method_78_code 142 = .ok (.istore 7, 2) := by decide +kernel
theorem d_Mo_strip_144 : decode prog_13_method_78_code 144 = .ok (.iload 7, 2) := by decide +kernel
theorem d_Mo_strip_146 : decode prog_13_method_78_code 146 = .ok (.iload_n 3, 1) := by decide +kernel
theorem d_Mo_strip_147 : decode prog_13_method_78_code 147 = .ok (.iload_n 1, 1) := by decide +kernel
theorem d_Mo_strip_148 : decode prog_13_method_78_code 148 = .ok (.isub, 1) := by decide +kernel
theorem d_Mo_strip_200 : decode prog_13_method_78_code 200 = .ok (.iload 6, 2) := by decide +kernel
theorem d_Mo_strip_202 : decode prog_13_method_78_code 202 = .ok (.ireturn, 1) := by decide +kernel
theorem d_Mo_strip_152 : decode prog_13_method_78_code 152 = .ok (.aload_n 0, 1) := by decide +kernel
theorem d_Mo_strip_153 : decode prog_13_method_78_code 153 = .ok (.iload 7, 2) := by decide +kernel
theorem d_Mo_strip_155 : decode prog_13_method_78_code 155 = .ok (.iload 6, 2) := by decide +kernel
theorem d_Mo_strip_157 : decode prog_13_method_78_code 157 = .ok (.iload 5, 2) := by decide +kernel
theorem d_Mo_strip_159 : decode prog_13_method_78_code 159 = .ok (.invokevirtual 416, 3) := by decide +kernel
theorem k_Mo_nextStrip : MOk m_Mo_nextStrip 3 ∧ IOk m_Mo_nextStrip := ⟨⟨atG 1862 (by decide +kernel) rfl, atG 122 (by decide +kernel) rfl, ⟨by decide, by decide⟩, by decide +kernel, by decide⟩, atG 1861 (by decide +kernel) rfl, atG 85 (by decide +kernel) rfl⟩
theorem lk_Mo_416 : Cond.methodLink "ShadeTownModel" 416 ⟨"ShadeTownModel", "nextStrip", "(III)I"⟩ ∈ tblG := atG 1859 (by decide +kernel) rfl
theorem d_Mo_strip_162 : decode prog_13_method_78_code 162 = .ok (.istore 6, 2) := by decide +kernel
theorem d_Mo_strip_164 : decode prog_13_method_78_code 164 = .ok (.aload_n 0, 1) := by decide +kernel
theorem d_Mo_strip_165 : decode prog_13_method_78_code 165 = .ok (.getfield 81, 3) := by decide +kernel
theorem d_Mo_strip_168 : decode prog_13_method_78_code 168 = .ok (.sipush 144, 3) := by decide +kernel
theorem d_Mo_strip_171 : decode prog_13_method_78_code 171 = .ok (.iload 7, 2) := by decide +kernel
theorem d_Mo_strip_173 : decode prog_13_method_78_code 173 = .ok (.imul, 1) := by decide +kernel
theorem d_Mo_strip_174 : decode prog_13_method_78_code 174 = .ok (.iload 6, 2) := by decide +kernel
theorem d_Mo_strip_176 : decode prog_13_method_78_code 176 = .ok (.iadd, 1) := by decide +kernel
theorem d_Mo_strip_177 : decode prog_13_method_78_code 177 = .ok (.iaload, 1) := by decide +kernel
theorem d_Mo_strip_178 : decode prog_13_method_78_code 178 = .ok (.bipush 32, 2) := by decide +kernel
theorem d_Mo_strip_180 : decode prog_13_method_78_code 180 = .ok (.aload_n 0, 1) := by decide +kernel
theorem d_Mo_strip_181 : decode prog_13_method_78_code 181 = .ok (.iload 6, 2) := by decide +kernel
theorem d_Mo_strip_183 : decode prog_13_method_78_code 183 = .ok (.iload_n 1, 1) := by decide +kernel
theorem d_Mo_strip_184 : decode prog_13_method_78_code 184 = .ok (.iload 7, 2) := by decide +kernel
theorem d_Mo_strip_186 : decode prog_13_method_78_code 186 = .ok (.iadd, 1) := by decide +kernel
theorem d_Mo_strip_187 : decode prog_13_method_78_code 187 = .ok (.invokevirtual 379, 3) := by decide +kernel
theorem d_Mo_strip_190 : decode prog_13_method_78_code 190 = .ok (.imul, 1) := by decide +kernel
theorem d_Mo_strip_191 : decode prog_13_method_78_code 191 = .ok (.isub, 1) := by decide +kernel
theorem d_Mo_strip_192 : decode prog_13_method_78_code 192 = .ok (.istore 5, 2) := by decide +kernel
theorem d_Mo_strip_194 : decode prog_13_method_78_code 194 = .ok (.iinc 7 1, 3) := by decide +kernel
theorem d_Mo_strip_197 : decode prog_13_method_78_code 197 = .ok (.goto (-53), 3) := by decide +kernel
theorem d_Mo_strip_149 : decode prog_13_method_78_code 149 = .ok (.if_icmp .gt 51, 3) := by decide +kernel
theorem d_Mo_strip_132 : decode prog_13_method_78_code 132 = .ok (.iload 5, 2) := by decide +kernel
theorem d_Mo_strip_134 : decode prog_13_method_78_code 134 = .ok (.bipush 32, 2) := by decide +kernel
theorem d_Mo_strip_136 : decode prog_13_method_78_code 136 = .ok (.irem, 1) := by decide +kernel
theorem d_Mo_strip_137 : decode prog_13_method_78_code 137 = .ok (.ireturn, 1) := by decide +kernel
theorem d_Mo_strip_129 : decode prog_13_method_78_code 129 = .ok (.if_icmp .ne 9, 3) := by decide +kernel
theorem d_Mo_strip_120 : decode prog_13_method_78_code 120 = .ok (.iload 5, 2) := by decide +kernel
theorem d_Mo_strip_122 : decode prog_13_method_78_code 122 = .ok (.bipush 32, 2) := by decide +kernel
theorem d_Mo_strip_124 : decode prog_13_method_78_code 124 = .ok (.idiv, 1) := by decide +kernel
theorem d_Mo_strip_125 : decode prog_13_method_78_code 125 = .ok (.ireturn, 1) := by decide +kernel
theorem d_Mo_strip_117 : decode prog_13_method_78_code 117 = .ok (.if_icmp .ne 9, 3) := by decide +kernel
theorem d_Mo_strip_112 : decode prog_13_method_78_code 112 = .ok (.bipush (-2), 2) := by decide +kernel
theorem d_Mo_strip_114 : decode prog_13_method_78_code 114 = .ok (.ireturn, 1) := by decide +kernel
theorem d_Mo_strip_109 : decode prog_13_method_78_code 109 = .ok (.if_icmp .lt 6, 3) := by decide +kernel
def B_Mo_strip_l76 (N : Nat) (a1 : Int32) (a3 : Int32) (σ : Mem) (rec : Int32 → Int32 → Option (Int32)) (x5 : Int32) (x6 : Int32) : Option (Int32) :=
  if 144 ≤ x6 then
    (some x5)
  else
    (grd (inb x6 1728) <|
    bnd1 (f_Mo_min x5 (mI σ 89 (x6.toNatClampNeg))) fun r93 =>
    letv (x6 + 1) fun v98 =>
    rec r93 v98)
def L_Mo_strip_l76 (N : Nat) (a1 : Int32) (a3 : Int32) (σ : Mem) : Nat → Int32 → Int32 → Option (Int32)
  | 0, _, _ => none
  | k + 1, x5, x6 => B_Mo_strip_l76 N a1 a3 σ (L_Mo_strip_l76 N a1 a3 σ k) x5 x6
set_option maxHeartbeats 4000000 in
set_option maxRecDepth 20000 in
theorem cL_Mo_strip_l76 (Z : ZX) {Y : YX} {Q : State → Prop} {N : Nat} {a1 : Int32} {a3 : Int32} {σ : Mem} {Good : Int32 → Prop} (hE : ∀ (o5 : Int32), Good o5 → V (mkB Z) Y m_Mo_strip 6 Q 0 0 nC σ 104 [(0, rf Z 65), (1, .int a1), (3, .int a3), (5, .int o5)] []) : ∀ (k : Nat) (x5 : Int32) (x6 : Int32) (res : Int32), L_Mo_strip_l76 N a1 a3 σ k x5 x6 = some res → Good res → V (mkB Z) Y m_Mo_strip 6 Q 0 0 nC σ 76 [(0, rf Z 65), (1, .int a1), (3, .int a3), (5, .int x5), (6, .int x6)] [] := by
  intro k
  induction k with
  | zero => intro x5 x6 res h; cases h
  | succ k ih =>
    intro x5 x6 res h hg
    replace h : B_Mo_strip_l76 N a1 a3 σ (L_Mo_strip_l76 N a1 a3 σ k) x5 x6 = some res := h
    unfold B_Mo_strip_l76 at h
    refine V.iload d_Mo_strip_76 4 rfl ?_
    refine V.sipush (v := 144) d_Mo_strip_78 (by decide) ?_
    refine V.icmp_ge (tgt := 104) d_Mo_strip_81 (by decide) (fun hc81 => ?_) (fun hc81 => ?_)
    · replace h := ite_t hc81 h
      cases h
      exact V.pick [0, 1, 2, 3] rfl (hE _ hg)
    · replace h := ite_f hc81 h
      refine V.iload d_Mo_strip_84 3 rfl ?_
      refine V.aload_n d_Mo_strip_86 rfl 0 rfl ?_
      refine V.getR (r := 89) ok_Mo fl_Mo_81 (by decide) (by decide) ly_65 rfl d_Mo_strip_87 ?_
      refine V.iload d_Mo_strip_90 4 rfl ?_
      obtain ⟨gq, h⟩ := grd_e h
      refine V.ra (by decide) ly_89 (inb_e gq) rfl d_Mo_strip_92 ?_
      obtain ⟨r93, h1, h⟩ := bnd1_e h
      refine V.sI (as := [.int x5, .int (mI σ 89 (x6.toNatClampNeg))]) (st := []) (c_Mo_min Z h1) k_Mo_min lk_Mo_342 (by decide) rfl rfl (Nat.le_of_ble_eq_true rfl) d_Mo_strip_93 ?_
      refine V.istore (lv' := [(5, .int r93), (0, rf Z 65), (1, .int a1), (3, .int a3), (6, .int x6)]) d_Mo_strip_96 (by decide) rfl ?_
      obtain ⟨v98, e_v98, h⟩ := letv_e h
      refine V.iinc (v := v98) (lv' := [(6, .int v98), (5, .int r93), (0, rf Z 65), (1, .int a1), (3, .int a3)]) d_Mo_strip_98 4 rfl (by rw [e_v98]; rfl) (by decide) rfl ?_
      refine V.goto (tgt := 76) d_Mo_strip_101 (by decide) ?_
      exact V.pick [2, 3, 4, 1, 0] rfl (ih _ _ _ h hg)
def B_Mo_strip_l144 (N : Nat) (a1 : Int32) (a3 : Int32) (rec : Int32 → Int32 → Int32 → Mem → Option (Int32 × Mem)) (x5 : Int32) (x6 : Int32) (x7 : Int32) (σ : Mem) : Option (Int32 × Mem) :=
  if (a3 - a1) < x7 then
    (some (x6, σ))
  else
    (bnd1 (f_Mo_nextStrip N σ x7 x6 x5) fun r159 =>
    grd (inb ((144 * x7) + r159) 1728) <|
    bnd2 (f_Mo_priceOf N σ r159 (a1 + x7)) fun r187 σ187 =>
    letv ((mI σ 89 (((144 * x7) + r159).toNatClampNeg)) - (32 * r187)) fun v192 =>
    letv (x7 + 1) fun v194 =>
    rec v192 r159 v194 σ187)
def L_Mo_strip_l144 (N : Nat) (a1 : Int32) (a3 : Int32) : Nat → Int32 → Int32 → Int32 → Mem → Option (Int32 × Mem)
  | 0, _, _, _, _ => none
  | k + 1, x5, x6, x7, σ => B_Mo_strip_l144 N a1 a3 (L_Mo_strip_l144 N a1 a3 k) x5 x6 x7 σ
set_option maxHeartbeats 4000000 in
set_option maxRecDepth 20000 in
theorem cL_Mo_strip_l144 (Z : ZX) {Y : YX} {post : Option Value → Mem → Prop} {N : Nat} {a1 : Int32} {a3 : Int32} {Good : Int32 × Mem → Prop} (hR : ∀ (v : Int32) (σr : Mem), Good (v, σr) → post (some (.int v)) σr) : ∀ (k : Nat) (x5 : Int32) (x6 : Int32) (x7 : Int32) (σ : Mem) (res : Int32 × Mem), L_Mo_strip_l144 N a1 a3 k x5 x6 x7 σ = some res → Good res → V (mkB Z) Y m_Mo_strip 6 (QP (mkB Z) Y nC 0 0 post) 0 0 nC σ 144 [(0, rf Z 65), (1, .int a1), (3, .int a3), (5, .int x5), (6, .int x6), (7, .int x7)] [] := by
  intro k
  induction k with
  | zero => intro x5 x6 x7 σ res h; cases h
  | succ k ih =>
    intro x5 x6 x7 σ res h hg
    replace h : B_Mo_strip_l144 N a1 a3 (L_Mo_strip_l144 N a1 a3 k) x5 x6 x7 σ = some res := h
    unfold B_Mo_strip_l144 at h
    refine V.iload d_Mo_strip_144 5 rfl ?_
    refine V.iload_n d_Mo_strip_146 rfl 2 rfl ?_
    refine V.iload_n d_Mo_strip_147 rfl 1 rfl ?_
    refine V.isub d_Mo_strip_148 ?_
    refine V.icmp_gt (tgt := 200) d_Mo_strip_149 (by decide) (fun hc149 => ?_) (fun hc149 => ?_)
    · replace h := ite_t hc149 h
      refine V.iload d_Mo_strip_200 4 rfl ?_
      cases h
      exact V.iret rfl d_Mo_strip_202 (hR _ _ hg)
    · replace h := ite_f hc149 h
      refine V.aload_n d_Mo_strip_152 rfl 0 rfl ?_
      refine V.iload d_Mo_strip_153 5 rfl ?_
      refine V.iload d_Mo_strip_155 4 rfl ?_
      refine V.iload d_Mo_strip_157 3 rfl ?_
      obtain ⟨r159, h1, h⟩ := bnd1_e h
      refine V.vI (as := [.int x7, .int x6, .int x5]) (st := []) (c_Mo_nextStrip Z h1) k_Mo_nextStrip lk_Mo_416 (by decide) rfl (by decide) ly_65 ok_Mo.1 rfl (Nat.le_of_ble_eq_true rfl) d_Mo_strip_159 ?_
      refine V.istore (lv' := [(6, .int r159), (0, rf Z 65), (1, .int a1), (3, .int a3), (5, .int x5), (7, .int x7)]) d_Mo_strip_162 (by decide) rfl ?_
      refine V.aload_n d_Mo_strip_164 rfl 1 rfl ?_
      refine V.getR (r := 89) ok_Mo fl_Mo_81 (by decide) (by decide) ly_65 rfl d_Mo_strip_165 ?_
      refine V.sipush (v := 144) d_Mo_strip_168 (by decide) ?_
      refine V.iload d_Mo_strip_171 5 rfl ?_
      refine V.imul d_Mo_strip_173 ?_
      refine V.iload d_Mo_strip_174 0 rfl ?_
      refine V.iadd d_Mo_strip_176 ?_
      obtain ⟨gq, h⟩ := grd_e h
      refine V.ra (by decide) ly_89 (inb_e gq) rfl d_Mo_strip_177 ?_
      refine V.bipush (v := 32) d_Mo_strip_178 (by decide) ?_
      refine V.aload_n d_Mo_strip_180 rfl 1 rfl ?_
      refine V.iload d_Mo_strip_181 0 rfl ?_
      refine V.iload_n d_Mo_strip_183 rfl 2 rfl ?_
      refine V.iload d_Mo_strip_184 5 rfl ?_
      refine V.iadd d_Mo_strip_186 ?_
      obtain ⟨r187, σ187, h1, h⟩ := bnd2_e h
      refine V.vI (as := [.int r159, .int (a1 + x7)]) (st := [.int 32, .int (mI σ 89 (((144 * x7) + r159).toNatClampNeg))]) (c_Mo_priceOf Z h1) k_Mo_priceOf lk_Mo_379 (by decide) rfl (by decide) ly_65 ok_Mo.1 rfl (Nat.le_of_ble_eq_true rfl) d_Mo_strip_187 ?_
      refine V.imul d_Mo_strip_190 ?_
      refine V.isub d_Mo_strip_191 ?_
      obtain ⟨v192, e_v192, h⟩ := letv_e h
      refine V.topI e_v192 ?_
      refine V.istore (lv' := [(5, .int v192), (6, .int r159), (0, rf Z 65), (1, .int a1), (3, .int a3), (7, .int x7)]) d_Mo_strip_192 (by decide) rfl ?_
      obtain ⟨v194, e_v194, h⟩ := letv_e h
      refine V.iinc (v := v194) (lv' := [(7, .int v194), (5, .int v192), (6, .int r159), (0, rf Z 65), (1, .int a1), (3, .int a3)]) d_Mo_strip_194 5 rfl (by rw [e_v194]; rfl) (by decide) rfl ?_
      refine V.goto (tgt := 144) d_Mo_strip_197 (by decide) ?_
      exact V.pick [3, 4, 5, 1, 2, 0] rfl (ih _ _ _ _ _ h hg)
def f_Mo_strip (N : Nat) (σ : Mem) (a1 : Int32) (a2 : Int32) (a3 : Int32) : Option (Int32 × Mem) :=
  bnd1 (f_Mo_isHour a1) fun r1 =>
  bnd1 ((
    if r1 = 0 then
      (some 0)
    else
      (bnd1 (f_Mo_in a2 (a1 + 1) 24) fun r13 =>
      if r13 = 0 then
        (some 0)
      else
        (if 12 < (a2 - a1) then
          (some 0)
        else
          (if a3 = (-1) then
            (some 1)
          else
            (if a3 = 30 then
              (some 1)
            else
              (bnd1 (f_Mo_in a3 a1 (a2 - 1)) fun r43 =>
              if r43 = 0 then
                (some 0)
              else
                (some 1))))))) : Option (Nat)) fun t4b =>
  if t4b = 0 then
    (some ((-3), σ))
  else
  (bnd1 (f_Mo_laysDay N σ) fun σ53 =>
  letv (a2 - a1) fun v59 =>
  bnd1 (f_Mo_laysStrip N σ53 a1 v59) fun σ65 =>
  bnd1 (L_Mo_strip_l76 N a1 a3 σ65 N 1000000000 0) fun z76_5 =>
  if z76_5 < 1000000000 then
    (if a3 = (-1) then
      (some (z76_5 / 32, σ65))
    else
      (if a3 = 30 then
        (some (z76_5 - z76_5 / 32 * 32, σ65))
      else
        (L_Mo_strip_l144 N a1 a3 N z76_5 (-1) 0 σ65)))
  else
    (some ((-2), σ65)))
set_option maxHeartbeats 4000000 in
set_option maxRecDepth 20000 in
theorem c_Mo_strip (Z : ZX) {N : Nat} {σ : Mem} {a1 : Int32} {a2 : Int32} {a3 : Int32} {r : Int32} {σ' : Mem} (h : f_Mo_strip N σ a1 a2 a3 = some (r, σ')) : CI Z 6 m_Mo_strip [rf Z 65, .int a1, .int a2, .int a3] σ r σ' := by
  refine Ct.of (by decide +kernel) (Nat.le_of_ble_eq_true rfl) (fun Y => ?_)
  show V (mkB Z) Y m_Mo_strip 6 (QP (mkB Z) Y nC 0 0 (fun v t => v = some (.int r) ∧ t = σ')) 0 0 nC σ 0 [(0, rf Z 65), (1, .int a1), (2, .int a2), (3, .int a3)] []
  unfold f_Mo_strip at h
  refine V.iload_n d_Mo_strip_0 rfl 1 rfl ?_
  obtain ⟨r1, h1, h⟩ := bnd1_e h
  refine V.sI (as := [.int a1]) (st := []) (c_Mo_isHour Z h1) k_Mo_isHour lk_Mo_321 (by decide) rfl rfl (Nat.le_of_ble_eq_true rfl) d_Mo_strip_1 ?_
  obtain ⟨s4b, h1, h⟩ := bnd1_e h
  have J4b_49 : s4b = 0 → V (mkB Z) Y m_Mo_strip 6 (QP (mkB Z) Y nC 0 0 (fun v t => v = some (.int r) ∧ t = σ')) 0 0 nC σ 49 [] [] := by
    intro he
    rw [he] at h
    replace h := ite_t rfl h
    refine V.bipush (v := (-3)) d_Mo_strip_49 (by decide) ?_
    cases h
    exact V.iret rfl d_Mo_strip_51 ⟨rfl, rfl⟩
  have J4b_52 : s4b = 1 → V (mkB Z) Y m_Mo_strip 6 (QP (mkB Z) Y nC 0 0 (fun v t => v = some (.int r) ∧ t = σ')) 0 0 nC σ 52 [(0, rf Z 65), (1, .int a1), (2, .int a2), (3, .int a3)] [] := by
    intro he
    rw [he] at h
    replace h := ite_f (by decide) h
    refine V.aload_n d_Mo_strip_52 rfl 0 rfl ?_
    obtain ⟨σ53, h1, h⟩ := bnd1_e h
    refine V.vN (as := []) (st := []) (c_Mo_laysDay Z h1) k_Mo_laysDay lk_Mo_370 (by decide) rfl (by decide) ly_65 ok_Mo.1 rfl (Nat.le_of_ble_eq_true rfl) d_Mo_strip_53 ?_
    refine V.iload_n d_Mo_strip_56 rfl 2 rfl ?_
    refine V.iload_n d_Mo_strip_57 rfl 1 rfl ?_
    refine V.isub d_Mo_strip_58 ?_
    obtain ⟨v59, e_v59, h⟩ := letv_e h
    refine V.topI e_v59 ?_
    refine V.istore (lv' := [(4, .int v59), (0, rf Z 65), (1, .int a1), (2, .int a2), (3, .int a3)]) d_Mo_strip_59 (by decide) rfl ?_
    refine V.aload_n d_Mo_strip_61 rfl 1 rfl ?_
    refine V.iload_n d_Mo_strip_62 rfl 2 rfl ?_
    refine V.iload d_Mo_strip_63 0 rfl ?_
    obtain ⟨σ65, h1, h⟩ := bnd1_e h
    refine V.vN (as := [.int a1, .int v59]) (st := []) (c_Mo_laysStrip Z h1) k_Mo_laysStrip lk_Mo_413 (by decide) rfl (by decide) ly_65 ok_Mo.1 rfl (Nat.le_of_ble_eq_true rfl) d_Mo_strip_65 ?_
    refine V.ldcw (v := 1000000000) kc_Mo_403 d_Mo_strip_68 ?_
    refine V.istore (lv' := [(5, .int 1000000000), (4, .int v59), (0, rf Z 65), (1, .int a1), (2, .int a2), (3, .int a3)]) d_Mo_strip_71 (by decide) rfl ?_
    refine V.iconst (v := 0) d_Mo_strip_73 (by decide) ?_
    refine V.istore (lv' := [(6, .int 0), (5, .int 1000000000), (4, .int v59), (0, rf Z 65), (1, .int a1), (2, .int a2), (3, .int a3)]) d_Mo_strip_74 (by decide) rfl ?_
    obtain ⟨x76_, h1, h⟩ := bnd1_e h
    refine V.pick [3, 4, 6, 1, 0] rfl (cL_Mo_strip_l76 Z (Good := fun z => x76_ = z) (fun z76_5 he => ?_) N _ _ _ h1 rfl)
    · rw [he] at h
      refine V.iload d_Mo_strip_104 3 rfl ?_
      refine V.ldcw (v := 1000000000) kc_Mo_403 d_Mo_strip_106 ?_
      refine V.icmp_lt (tgt := 115) d_Mo_strip_109 (by decide) (fun hc109 => ?_) (fun hc109 => ?_)
      · replace h := ite_t hc109 h
        refine V.iload_n d_Mo_strip_115 rfl 2 rfl ?_
        refine V.iconst (v := (-1)) d_Mo_strip_116 (by decide) ?_
        refine V.icmp_ne (tgt := 126) d_Mo_strip_117 (by decide) (fun hc117 => ?_) (fun hc117 => ?_)
        · replace h := ite_f hc117 h
          refine V.iload_n d_Mo_strip_126 rfl 2 rfl ?_
          refine V.bipush (v := 30) d_Mo_strip_127 (by decide) ?_
          refine V.icmp_ne (tgt := 138) d_Mo_strip_129 (by decide) (fun hc129 => ?_) (fun hc129 => ?_)
          · replace h := ite_f hc129 h
            refine V.iconst (v := (-1)) d_Mo_strip_138 (by decide) ?_
            refine V.istore (lv' := [(6, .int (-1)), (0, rf Z 65), (1, .int a1), (3, .int a3), (5, .int z76_5)]) d_Mo_strip_139 (by decide) rfl ?_
            refine V.iconst (v := 0) d_Mo_strip_141 (by decide) ?_
            refine V.istore (lv' := [(7, .int 0), (6, .int (-1)), (0, rf Z 65), (1, .int a1), (3, .int a3), (5, .int z76_5)]) d_Mo_strip_142 (by decide) rfl ?_
            refine V.pick [2, 3, 4, 5, 1, 0] rfl (cL_Mo_strip_l144 Z (Good := fun z => z = _) (fun r144v r144m he => ?_) N _ _ _ _ _ h rfl)
            · cases he
              exact ⟨rfl, rfl⟩
          · replace h := ite_t hc129 h
            refine V.iload d_Mo_strip_132 3 rfl ?_
            refine V.bipush (v := 32) d_Mo_strip_134 (by decide) ?_
            refine V.irem d_Mo_strip_136 (by decide) ?_
            cases h
            exact V.iret rfl d_Mo_strip_137 ⟨rfl, rfl⟩
        · replace h := ite_t hc117 h
          refine V.iload d_Mo_strip_120 3 rfl ?_
          refine V.bipush (v := 32) d_Mo_strip_122 (by decide) ?_
          refine V.idiv d_Mo_strip_124 (by decide) ?_
          cases h
          exact V.iret rfl d_Mo_strip_125 ⟨rfl, rfl⟩
      · replace h := ite_f hc109 h
        refine V.bipush (v := (-2)) d_Mo_strip_112 (by decide) ?_
        cases h
        exact V.iret rfl d_Mo_strip_114 ⟨rfl, rfl⟩
  replace h := h1
  refine V.if_eq (tgt := 49) d_Mo_strip_4 (by decide) (fun hc4 => ?_) (fun hc4 => ?_)
  · replace h := ite_t hc4 h
    exact V.pick [] rfl (J4b_49 (Option.some.inj h).symm)
  · replace h := ite_f hc4 h
    refine V.iload_n d_Mo_strip_7 rfl 2 rfl ?_
    refine V.iload_n d_Mo_strip_8 rfl 1 rfl ?_
    refine V.iconst (v := 1) d_Mo_strip_9 (by decide) ?_
    refine V.iadd d_Mo_strip_10 ?_
    refine V.bipush (v := 24) d_Mo_strip_11 (by decide) ?_
    obtain ⟨r13, h1, h⟩ := bnd1_e h
    refine V.sI (as := [.int a2, .int (a1 + 1), .int 24]) (st := []) (c_Mo_in Z h1) k_Mo_in lk_Mo_188 (by decide) rfl rfl (Nat.le_of_ble_eq_true rfl) d_Mo_strip_13 ?_
    refine V.if_eq (tgt := 49) d_Mo_strip_16 (by decide) (fun hc16 => ?_) (fun hc16 => ?_)
    · replace h := ite_t hc16 h
      exact V.pick [] rfl (J4b_49 (Option.some.inj h).symm)
    · replace h := ite_f hc16 h
      refine V.iload_n d_Mo_strip_19 rfl 2 rfl ?_
      refine V.iload_n d_Mo_strip_20 rfl 1 rfl ?_
      refine V.isub d_Mo_strip_21 ?_
      refine V.bipush (v := 12) d_Mo_strip_22 (by decide) ?_
      refine V.icmp_gt (tgt := 49) d_Mo_strip_24 (by decide) (fun hc24 => ?_) (fun hc24 => ?_)
      · replace h := ite_t hc24 h
        exact V.pick [] rfl (J4b_49 (Option.some.inj h).symm)
      · replace h := ite_f hc24 h
        refine V.iload_n d_Mo_strip_27 rfl 3 rfl ?_
        refine V.iconst (v := (-1)) d_Mo_strip_28 (by decide) ?_
        refine V.icmp_eq (tgt := 52) d_Mo_strip_29 (by decide) (fun hc29 => ?_) (fun hc29 => ?_)
        · replace h := ite_t hc29 h
          exact V.pick [0, 1, 2, 3] rfl (J4b_52 (Option.some.inj h).symm)
        · replace h := ite_f hc29 h
          refine V.iload_n d_Mo_strip_32 rfl 3 rfl ?_
          refine V.bipush (v := 30) d_Mo_strip_33 (by decide) ?_
          refine V.icmp_eq (tgt := 52) d_Mo_strip_35 (by decide) (fun hc35 => ?_) (fun hc35 => ?_)
          · replace h := ite_t hc35 h
            exact V.pick [0, 1, 2, 3] rfl (J4b_52 (Option.some.inj h).symm)
          · replace h := ite_f hc35 h
            refine V.iload_n d_Mo_strip_38 rfl 3 rfl ?_
            refine V.iload_n d_Mo_strip_39 rfl 1 rfl ?_
            refine V.iload_n d_Mo_strip_40 rfl 2 rfl ?_
            refine V.iconst (v := 1) d_Mo_strip_41 (by decide) ?_
            refine V.isub d_Mo_strip_42 ?_
            obtain ⟨r43, h1, h⟩ := bnd1_e h
            refine V.sI (as := [.int a3, .int a1, .int (a2 - 1)]) (st := []) (c_Mo_in Z h1) k_Mo_in lk_Mo_188 (by decide) rfl rfl (Nat.le_of_ble_eq_true rfl) d_Mo_strip_43 ?_
            refine V.if_ne (tgt := 52) d_Mo_strip_46 (by decide) (fun hc46 => ?_) (fun hc46 => ?_)
            · replace h := ite_f hc46 h
              exact V.pick [0, 1, 2, 3] rfl (J4b_52 (Option.some.inj h).symm)
            · replace h := ite_t hc46 h
              exact V.pick [] rfl (J4b_49 (Option.some.inj h).symm)
abbrev m_Mo_hourOf : MI := (⟨"ShadeTownModel", "hourOf", "(II)I"⟩, prog_13_method_80_code, 2, (Option.some Jvm.ClassFile.FieldType.int))
theorem d_Mo_hourOf_0 : decode prog_13_method_80_code 0 = .ok (.iload_n 0, 1) := by decide +kernel
theorem d_Mo_hourOf_1 : decode prog_13_method_80_code 1 = .ok (.iload_n 1, 1) := by decide +kernel
theorem d_Mo_hourOf_2 : decode prog_13_method_80_code 2 = .ok (.iconst 1, 1) := by decide +kernel
theorem d_Mo_hourOf_3 : decode prog_13_method_80_code 3 = .ok (.isub, 1) := by decide +kernel
theorem d_Mo_hourOf_4 : decode prog_13_method_80_code 4 = .ok (.bipush 6, 2) := by decide +kernel
theorem d_Mo_hourOf_6 : decode prog_13_method_80_code 6 = .ok (.idiv, 1) := by decide +kernel
theorem d_Mo_hourOf_7 : decode prog_13_method_80_code 7 = .ok (.iadd, 1) := by decide +kernel
theorem d_Mo_hourOf_8 : decode prog_13_method_80_code 8 = .ok (.bipush 24, 2) := by decide +kernel
theorem d_Mo_hourOf_10 : decode prog_13_method_80_code 10 = .ok (.irem, 1) := by decide +kernel
theorem d_Mo_hourOf_11 : decode prog_13_method_80_code 11 = .ok (.ireturn, 1) := by decide +kernel
def f_Mo_hourOf (a0 : Int32) (a1 : Int32) : Option (Int32) :=
  some ((a0 + ((a1 - 1) / 6)) - (a0 + ((a1 - 1) / 6)) / 24 * 24)
set_option maxHeartbeats 4000000 in
set_option maxRecDepth 20000 in
theorem c_Mo_hourOf (Z : ZX) {σ : Mem} {a0 : Int32} {a1 : Int32} {r : Int32} (h : f_Mo_hourOf a0 a1 = some r) : CI Z 0 m_Mo_hourOf [.int a0, .int a1] σ r σ := by
  refine Ct.of (by decide +kernel) (Nat.le_of_ble_eq_true rfl) (fun Y => ?_)
  show V (mkB Z) Y m_Mo_hourOf 0 (QP (mkB Z) Y nC 0 0 (fun v t => v = some (.int r) ∧ t = σ)) 0 0 nC σ 0 [(0, .int a0), (1, .int a1)] []
  unfold f_Mo_hourOf at h
  refine V.iload_n d_Mo_hourOf_0 rfl 0 rfl ?_
  refine V.iload_n d_Mo_hourOf_1 rfl 1 rfl ?_
  refine V.iconst (v := 1) d_Mo_hourOf_2 (by decide) ?_
  refine V.isub d_Mo_hourOf_3 ?_
  refine V.bipush (v := 6) d_Mo_hourOf_4 (by decide) ?_
  refine V.idiv d_Mo_hourOf_6 (by decide) ?_
  refine V.iadd d_Mo_hourOf_7 ?_
  refine V.bipush (v := 24) d_Mo_hourOf_8 (by decide) ?_
  refine V.irem d_Mo_hourOf_10 (by decide) ?_
  cases h
  exact V.iret rfl d_Mo_hourOf_11 ⟨rfl, rfl⟩
abbrev m_Mo_leastSunTo : MI := (⟨"ShadeTownModel", "leastSunTo", "(I)I"⟩, prog_13_method_83_code, 4, (Option.some Jvm.ClassFile.FieldType.int))
theorem d_Mo_leastSunTo_0 : decode prog_13_method_83_code 0 = .ok (.ldc_w 403, 3) := by decide +kernel
theorem d_Mo_leastSunTo_3 : decode prog_13_method_83_code 3 = .ok (.istore_n 2, 1) := by decide +kernel
theorem d_Mo_leastSunTo_4 : decode prog_13_method_83_code 4 = .ok (.iconst 0, 1) := by decide +kernel
theorem d_Mo_leastSunTo_5 : decode prog_13_method_83_code 5 = .ok (.istore_n 3, 1) := by decide +kernel
theorem d_Mo_leastSunTo_6 : decode prog_13_method_83_code 6 = .ok (.iload_n 3, 1) := by decide +kernel
theorem d_Mo_leastSunTo_7 : decode prog_13_method_83_code 7 = .ok (.iconst 5, 1) := by decide +kernel
theorem d_Mo_leastSunTo_41 : decode prog_13_method_83_code 41 = .ok (.iload_n 2, 1) := by decide +kernel
theorem d_Mo_leastSunTo_42 : decode prog_13_method_83_code 42 = .ok (.ireturn, 1) := by decide +kernel
theorem d_Mo_leastSunTo_11 : decode prog_13_method_83_code 11 = .ok (.iload_n 1, 1) := by decide +kernel
theorem d_Mo_leastSunTo_12 : decode prog_13_method_83_code 12 = .ok (.iload_n 3, 1) := by decide +kernel
theorem d_Mo_leastSunTo_13 : decode prog_13_method_83_code 13 = .ok (.invokestatic 404, 3) := by decide +kernel
theorem d_Mo_leastSunTo_16 : decode prog_13_method_83_code 16 = .ok (.iconst (-1), 1) := by decide +kernel
theorem d_Mo_leastSunTo_20 : decode prog_13_method_83_code 20 = .ok (.iload_n 2, 1) := by decide +kernel
theorem d_Mo_leastSunTo_21 : decode prog_13_method_83_code 21 = .ok (.aload_n 0, 1) := by decide +kernel
theorem fl_Mo_90 : FL "ShadeTownModel" 90 T_Mo 43 := atG 1375 (by decide +kernel) rfl
theorem d_Mo_leastSunTo_22 : decode prog_13_method_83_code 22 = .ok (.getfield 90, 3) := by decide +kernel
theorem d_Mo_leastSunTo_25 : decode prog_13_method_83_code 25 = .ok (.iload_n 1, 1) := by decide +kernel
theorem d_Mo_leastSunTo_26 : decode prog_13_method_83_code 26 = .ok (.iload_n 3, 1) := by decide +kernel
theorem d_Mo_leastSunTo_27 : decode prog_13_method_83_code 27 = .ok (.invokestatic 404, 3) := by decide +kernel
theorem d_Mo_leastSunTo_30 : decode prog_13_method_83_code 30 = .ok (.iaload, 1) := by decide +kernel
theorem d_Mo_leastSunTo_31 : decode prog_13_method_83_code 31 = .ok (.invokestatic 342, 3) := by decide +kernel
theorem d_Mo_leastSunTo_34 : decode prog_13_method_83_code 34 = .ok (.istore_n 2, 1) := by decide +kernel
theorem d_Mo_leastSunTo_17 : decode prog_13_method_83_code 17 = .ok (.if_icmp .eq 18, 3) := by decide +kernel
theorem d_Mo_leastSunTo_35 : decode prog_13_method_83_code 35 = .ok (.iinc 3 1, 3) := by decide +kernel
theorem d_Mo_leastSunTo_38 : decode prog_13_method_83_code 38 = .ok (.goto (-32), 3) := by decide +kernel
theorem d_Mo_leastSunTo_8 : decode prog_13_method_83_code 8 = .ok (.if_icmp .ge 33, 3) := by decide +kernel
def B_Mo_leastSunTo_l6 (N : Nat) (a1 : Int32) (σ : Mem) (rec : Int32 → Int32 → Option (Int32)) (x2 : Int32) (x3 : Int32) : Option (Int32) :=
  if 5 ≤ x3 then
    (some x2)
  else
    (bnd1 (f_Mo_beside a1 x3) fun r13 =>
    bnd1 ((
      if r13 = (-1) then
        (some x2)
      else
        (bnd1 (f_Mo_beside a1 x3) fun r27 =>
        grd (inb r27 144) <|
        bnd1 (f_Mo_min x2 (mI σ 92 (r27.toNatClampNeg))) fun r31 =>
        some r31)) : Option (Int32)) fun y17_2 =>
    letv (x3 + 1) fun v35 =>
    rec y17_2 v35)
def L_Mo_leastSunTo_l6 (N : Nat) (a1 : Int32) (σ : Mem) : Nat → Int32 → Int32 → Option (Int32)
  | 0, _, _ => none
  | k + 1, x2, x3 => B_Mo_leastSunTo_l6 N a1 σ (L_Mo_leastSunTo_l6 N a1 σ k) x2 x3
set_option maxHeartbeats 4000000 in
set_option maxRecDepth 20000 in
theorem cL_Mo_leastSunTo_l6 (Z : ZX) {Y : YX} {post : Option Value → Mem → Prop} {N : Nat} {a1 : Int32} {σ : Mem} {Good : Int32 → Prop} (hR : ∀ (v : Int32), Good v → post (some (.int v)) σ) : ∀ (k : Nat) (x2 : Int32) (x3 : Int32) (res : Int32), L_Mo_leastSunTo_l6 N a1 σ k x2 x3 = some res → Good res → V (mkB Z) Y m_Mo_leastSunTo 2 (QP (mkB Z) Y nC 0 0 post) 0 0 nC σ 6 [(0, rf Z 65), (1, .int a1), (2, .int x2), (3, .int x3)] [] := by
  intro k
  induction k with
  | zero => intro x2 x3 res h; cases h
  | succ k ih =>
    intro x2 x3 res h hg
    replace h : B_Mo_leastSunTo_l6 N a1 σ (L_Mo_leastSunTo_l6 N a1 σ k) x2 x3 = some res := h
    unfold B_Mo_leastSunTo_l6 at h
    refine V.iload_n d_Mo_leastSunTo_6 rfl 3 rfl ?_
    refine V.iconst (v := 5) d_Mo_leastSunTo_7 (by decide) ?_
    refine V.icmp_ge (tgt := 41) d_Mo_leastSunTo_8 (by decide) (fun hc8 => ?_) (fun hc8 => ?_)
    · replace h := ite_t hc8 h
      refine V.iload_n d_Mo_leastSunTo_41 rfl 2 rfl ?_
      cases h
      exact V.iret rfl d_Mo_leastSunTo_42 (hR _ hg)
    · replace h := ite_f hc8 h
      refine V.iload_n d_Mo_leastSunTo_11 rfl 1 rfl ?_
      refine V.iload_n d_Mo_leastSunTo_12 rfl 3 rfl ?_
      obtain ⟨r13, h1, h⟩ := bnd1_e h
      refine V.sI (as := [.int a1, .int x3]) (st := []) (c_Mo_beside Z h1) k_Mo_beside lk_Mo_404 (by decide) rfl rfl (Nat.le_of_ble_eq_true rfl) d_Mo_leastSunTo_13 ?_
      refine V.iconst (v := (-1)) d_Mo_leastSunTo_16 (by decide) ?_
      obtain ⟨s17, h1, h⟩ := bnd1_e h
      have J17_35 : ∀ (y17_2 : Int32), s17 = y17_2 → V (mkB Z) Y m_Mo_leastSunTo 2 (QP (mkB Z) Y nC 0 0 post) 0 0 nC σ 35 [(0, rf Z 65), (1, .int a1), (2, .int y17_2), (3, .int x3)] [] := by
        intro y17_2 he
        rw [he] at h
        obtain ⟨v35, e_v35, h⟩ := letv_e h
        refine V.iinc (v := v35) (lv' := [(3, .int v35), (0, rf Z 65), (1, .int a1), (2, .int y17_2)]) d_Mo_leastSunTo_35 3 rfl (by rw [e_v35]; rfl) (by decide) rfl ?_
        refine V.goto (tgt := 6) d_Mo_leastSunTo_38 (by decide) ?_
        exact V.pick [1, 2, 3, 0] rfl (ih _ _ _ h hg)
      replace h := h1
      refine V.icmp_eq (tgt := 35) d_Mo_leastSunTo_17 (by decide) (fun hc17 => ?_) (fun hc17 => ?_)
      · replace h := ite_t hc17 h
        exact V.pick [0, 1, 2, 3] rfl (J17_35 _ (Option.some.inj h).symm)
      · replace h := ite_f hc17 h
        refine V.iload_n d_Mo_leastSunTo_20 rfl 2 rfl ?_
        refine V.aload_n d_Mo_leastSunTo_21 rfl 0 rfl ?_
        refine V.getR (r := 92) ok_Mo fl_Mo_90 (by decide) (by decide) ly_65 rfl d_Mo_leastSunTo_22 ?_
        refine V.iload_n d_Mo_leastSunTo_25 rfl 1 rfl ?_
        refine V.iload_n d_Mo_leastSunTo_26 rfl 3 rfl ?_
        obtain ⟨r27, h1, h⟩ := bnd1_e h
        refine V.sI (as := [.int a1, .int x3]) (st := [rf Z 92, .int x2]) (c_Mo_beside Z h1) k_Mo_beside lk_Mo_404 (by decide) rfl rfl (Nat.le_of_ble_eq_true rfl) d_Mo_leastSunTo_27 ?_
        obtain ⟨gq, h⟩ := grd_e h
        refine V.ra (by decide) ly_92 (inb_e gq) rfl d_Mo_leastSunTo_30 ?_
        obtain ⟨r31, h1, h⟩ := bnd1_e h
        refine V.sI (as := [.int x2, .int (mI σ 92 (r27.toNatClampNeg))]) (st := []) (c_Mo_min Z h1) k_Mo_min lk_Mo_342 (by decide) rfl rfl (Nat.le_of_ble_eq_true rfl) d_Mo_leastSunTo_31 ?_
        refine V.istore_n (lv' := [(2, .int r31), (0, rf Z 65), (1, .int a1), (3, .int x3)]) d_Mo_leastSunTo_34 rfl (by decide) rfl ?_
        exact V.pick [1, 2, 0, 3] rfl (J17_35 _ (Option.some.inj h).symm)
def f_Mo_leastSunTo (N : Nat) (σ : Mem) (a1 : Int32) : Option (Int32) :=
  L_Mo_leastSunTo_l6 N a1 σ N 1000000000 0
set_option maxHeartbeats 4000000 in
set_option maxRecDepth 20000 in
theorem c_Mo_leastSunTo (Z : ZX) {N : Nat} {σ : Mem} {a1 : Int32} {r : Int32} (h : f_Mo_leastSunTo N σ a1 = some r) : CI Z 2 m_Mo_leastSunTo [rf Z 65, .int a1] σ r σ := by
  refine Ct.of (by decide +kernel) (Nat.le_of_ble_eq_true rfl) (fun Y => ?_)
  show V (mkB Z) Y m_Mo_leastSunTo 2 (QP (mkB Z) Y nC 0 0 (fun v t => v = some (.int r) ∧ t = σ)) 0 0 nC σ 0 [(0, rf Z 65), (1, .int a1)] []
  unfold f_Mo_leastSunTo at h
  refine V.ldcw (v := 1000000000) kc_Mo_403 d_Mo_leastSunTo_0 ?_
  refine V.istore_n (lv' := [(2, .int 1000000000), (0, rf Z 65), (1, .int a1)]) d_Mo_leastSunTo_3 rfl (by decide) rfl ?_
  refine V.iconst (v := 0) d_Mo_leastSunTo_4 (by decide) ?_
  refine V.istore_n (lv' := [(3, .int 0), (2, .int 1000000000), (0, rf Z 65), (1, .int a1)]) d_Mo_leastSunTo_5 rfl (by decide) rfl ?_
  refine V.pick [2, 3, 1, 0] rfl (cL_Mo_leastSunTo_l6 Z (Good := fun z => z = _) (fun r6v he => ?_) N _ _ _ h rfl)
  · cases he
    exact ⟨rfl, rfl⟩
abbrev m_Mo_isDark : MI := (⟨"ShadeTownModel", "isDark", "(II)Z"⟩, prog_13_method_79_code, 3, (Option.some Jvm.ClassFile.FieldType.boolean))
theorem d_Mo_isDark_0 : decode prog_13_method_79_code 0 = .ok (.aload_n 0, 1) := by decide +kernel
theorem d_Mo_isDark_1 : decode prog_13_method_79_code 1 = .ok (.getfield 74, 3) := by decide +kernel
theorem d_Mo_isDark_4 : decode prog_13_method_79_code 4 = .ok (.iload_n 1, 1) := by decide +kernel
theorem d_Mo_isDark_5 : decode prog_13_method_79_code 5 = .ok (.baload, 1) := by decide +kernel
theorem d_Mo_isDark_18 : decode prog_13_method_79_code 18 = .ok (.iconst 1, 1) := by decide +kernel
theorem d_Mo_isDark_19 : decode prog_13_method_79_code 19 = .ok (.goto 4, 3) := by decide +kernel
theorem d_Mo_isDark_23 : decode prog_13_method_79_code 23 = .ok (.ireturn, 1) := by decide +kernel
theorem d_Mo_isDark_9 : decode prog_13_method_79_code 9 = .ok (.aload_n 0, 1) := by decide +kernel
theorem d_Mo_isDark_10 : decode prog_13_method_79_code 10 = .ok (.iload_n 1, 1) := by decide +kernel
theorem d_Mo_isDark_11 : decode prog_13_method_79_code 11 = .ok (.iload_n 2, 1) := by decide +kernel
theorem d_Mo_isDark_12 : decode prog_13_method_79_code 12 = .ok (.invokevirtual 373, 3) := by decide +kernel
theorem d_Mo_isDark_22 : decode prog_13_method_79_code 22 = .ok (.iconst 0, 1) := by decide +kernel
theorem d_Mo_isDark_15 : decode prog_13_method_79_code 15 = .ok (.ifCond .eq 7, 3) := by decide +kernel
theorem d_Mo_isDark_6 : decode prog_13_method_79_code 6 = .ok (.ifCond .eq 12, 3) := by decide +kernel
def f_Mo_isDark (σ : Mem) (a1 : Int32) (a2 : Int32) : Option (Int32) :=
  grd (inb a1 24) <|
  if (mI σ 87 (a1.toNatClampNeg)) = 0 then
    (some 1)
  else
    (bnd1 (f_Mo_whoOn σ a1 a2) fun r12 =>
    if r12 = 0 then
      (some 0)
    else
      (some 1))
set_option maxHeartbeats 4000000 in
set_option maxRecDepth 20000 in
theorem c_Mo_isDark (Z : ZX) {σ : Mem} {a1 : Int32} {a2 : Int32} {r : Int32} (h : f_Mo_isDark σ a1 a2 = some r) : CI Z 1 m_Mo_isDark [rf Z 65, .int a1, .int a2] σ r σ := by
  refine Ct.of (by decide +kernel) (Nat.le_of_ble_eq_true rfl) (fun Y => ?_)
  show V (mkB Z) Y m_Mo_isDark 1 (QP (mkB Z) Y nC 0 0 (fun v t => v = some (.int r) ∧ t = σ)) 0 0 nC σ 0 [(0, rf Z 65), (1, .int a1), (2, .int a2)] []
  unfold f_Mo_isDark at h
  refine V.aload_n d_Mo_isDark_0 rfl 0 rfl ?_
  refine V.getR (r := 87) ok_Mo fl_Mo_74 (by decide) (by decide) ly_65 rfl d_Mo_isDark_1 ?_
  refine V.iload_n d_Mo_isDark_4 rfl 1 rfl ?_
  obtain ⟨gq, h⟩ := grd_e h
  refine V.rz (by decide) ly_87 (inb_e gq) rfl d_Mo_isDark_5 ?_
  refine V.if_eq (tgt := 18) d_Mo_isDark_6 (by decide) (fun hc6 => ?_) (fun hc6 => ?_)
  · replace h := ite_t hc6 h
    refine V.iconst (v := 1) d_Mo_isDark_18 (by decide) ?_
    refine V.goto (tgt := 23) d_Mo_isDark_19 (by decide) ?_
    cases h
    exact V.zret rfl rfl d_Mo_isDark_23 ⟨rfl, rfl⟩
  · replace h := ite_f hc6 h
    refine V.aload_n d_Mo_isDark_9 rfl 0 rfl ?_
    refine V.iload_n d_Mo_isDark_10 rfl 1 rfl ?_
    refine V.iload_n d_Mo_isDark_11 rfl 2 rfl ?_
    obtain ⟨r12, h1, h⟩ := bnd1_e h
    refine V.vI (as := [.int a1, .int a2]) (st := []) (c_Mo_whoOn Z h1) k_Mo_whoOn lk_Mo_373 (by decide) rfl (by decide) ly_65 ok_Mo.1 rfl (Nat.le_of_ble_eq_true rfl) d_Mo_isDark_12 ?_
    refine V.if_eq (tgt := 22) d_Mo_isDark_15 (by decide) (fun hc15 => ?_) (fun hc15 => ?_)
    · replace h := ite_t hc15 h
      refine V.iconst (v := 0) d_Mo_isDark_22 (by decide) ?_
      cases h
      exact V.zret rfl rfl d_Mo_isDark_23 ⟨rfl, rfl⟩
    · replace h := ite_f hc15 h
      refine V.iconst (v := 1) d_Mo_isDark_18 (by decide) ?_
      refine V.goto (tgt := 23) d_Mo_isDark_19 (by decide) ?_
      cases h
      exact V.zret rfl rfl d_Mo_isDark_23 ⟨rfl, rfl⟩
abbrev m_Mo_laysLeastSun : MI := (⟨"ShadeTownModel", "laysLeastSun", "(III)V"⟩, prog_13_method_84_code, 8, (Option.none : Option Jvm.ClassFile.FieldType))
theorem d_Mo_laysLeastSun_0 : decode prog_13_method_84_code 0 = .ok (.aload_n 0, 1) := by decide +kernel
theorem d_Mo_laysLeastSun_1 : decode prog_13_method_84_code 1 = .ok (.ldc_w 403, 3) := by decide +kernel
theorem fl_Mo_428 : FL "ShadeTownModel" 428 T_Mo 45 := atG 1377 (by decide +kernel) rfl
theorem d_Mo_laysLeastSun_4 : decode prog_13_method_84_code 4 = .ok (.putfield 428, 3) := by decide +kernel
theorem d_Mo_laysLeastSun_7 : decode prog_13_method_84_code 7 = .ok (.aload_n 0, 1) := by decide +kernel
theorem d_Mo_laysLeastSun_8 : decode prog_13_method_84_code 8 = .ok (.bipush (-2), 2) := by decide +kernel
theorem fl_Mo_431 : FL "ShadeTownModel" 431 T_Mo 46 := atG 1378 (by decide +kernel) rfl
theorem d_Mo_laysLeastSun_10 : decode prog_13_method_84_code 10 = .ok (.putfield 431, 3) := by decide +kernel
theorem d_Mo_laysLeastSun_13 : decode prog_13_method_84_code 13 = .ok (.iconst 0, 1) := by decide +kernel
theorem d_Mo_laysLeastSun_14 : decode prog_13_method_84_code 14 = .ok (.istore 4, 2) := by decide +kernel
theorem d_Mo_laysLeastSun_16 : decode prog_13_method_84_code 16 = .ok (.iload 4, 2) := by decide +kernel
theorem d_Mo_laysLeastSun_18 : decode prog_13_method_84_code 18 = .ok (.sipush 144, 3) := by decide +kernel
theorem d_Mo_laysLeastSun_24 : decode prog_13_method_84_code 24 = .ok (.aload_n 0, 1) := by decide +kernel
theorem d_Mo_laysLeastSun_25 : decode prog_13_method_84_code 25 = .ok (.getfield 90, 3) := by decide +kernel
theorem d_Mo_laysLeastSun_28 : decode prog_13_method_84_code 28 = .ok (.iload 4, 2) := by decide +kernel
theorem d_Mo_laysLeastSun_30 : decode prog_13_method_84_code 30 = .ok (.iload 4, 2) := by decide +kernel
theorem d_Mo_laysLeastSun_32 : decode prog_13_method_84_code 32 = .ok (.iload_n 1, 1) := by decide +kernel
theorem d_Mo_laysLeastSun_40 : decode prog_13_method_84_code 40 = .ok (.ldc_w 403, 3) := by decide +kernel
theorem d_Mo_laysLeastSun_36 : decode prog_13_method_84_code 36 = .ok (.iconst 0, 1) := by decide +kernel
theorem d_Mo_laysLeastSun_37 : decode prog_13_method_84_code 37 = .ok (.goto 6, 3) := by decide +kernel
theorem d_Mo_laysLeastSun_33 : decode prog_13_method_84_code 33 = .ok (.if_icmp .ne 7, 3) := by decide +kernel
theorem d_Mo_laysLeastSun_43 : decode prog_13_method_84_code 43 = .ok (.iastore, 1) := by decide +kernel
theorem d_Mo_laysLeastSun_44 : decode prog_13_method_84_code 44 = .ok (.iinc 4 1, 3) := by decide +kernel
theorem d_Mo_laysLeastSun_47 : decode prog_13_method_84_code 47 = .ok (.goto (-31), 3) := by decide +kernel
theorem d_Mo_laysLeastSun_21 : decode prog_13_method_84_code 21 = .ok (.if_icmp .ge 29, 3) := by decide +kernel
theorem d_Mo_laysLeastSun_50 : decode prog_13_method_84_code 50 = .ok (.iconst 0, 1) := by decide +kernel
theorem d_Mo_laysLeastSun_51 : decode prog_13_method_84_code 51 = .ok (.istore 4, 2) := by decide +kernel
theorem d_Mo_laysLeastSun_53 : decode prog_13_method_84_code 53 = .ok (.iload 4, 2) := by decide +kernel
theorem d_Mo_laysLeastSun_55 : decode prog_13_method_84_code 55 = .ok (.bipush 36, 2) := by decide +kernel
theorem d_Mo_laysLeastSun_217 : decode prog_13_method_84_code 217 = .ok (.return_, 1) := by decide +kernel
theorem d_Mo_laysLeastSun_60 : decode prog_13_method_84_code 60 = .ok (.aload_n 0, 1) := by decide +kernel
theorem d_Mo_laysLeastSun_61 : decode prog_13_method_84_code 61 = .ok (.getfield 90, 3) := by decide +kernel
theorem d_Mo_laysLeastSun_64 : decode prog_13_method_84_code 64 = .ok (.iload_n 2, 1) := by decide +kernel
theorem d_Mo_laysLeastSun_65 : decode prog_13_method_84_code 65 = .ok (.iaload, 1) := by decide +kernel
theorem d_Mo_laysLeastSun_66 : decode prog_13_method_84_code 66 = .ok (.aload_n 0, 1) := by decide +kernel
theorem d_Mo_laysLeastSun_67 : decode prog_13_method_84_code 67 = .ok (.getfield 428, 3) := by decide +kernel
theorem d_Mo_laysLeastSun_73 : decode prog_13_method_84_code 73 = .ok (.aload_n 0, 1) := by decide +kernel
theorem d_Mo_laysLeastSun_74 : decode prog_13_method_84_code 74 = .ok (.aload_n 0, 1) := by decide +kernel
theorem d_Mo_laysLeastSun_75 : decode prog_13_method_84_code 75 = .ok (.getfield 90, 3) := by decide +kernel
theorem d_Mo_laysLeastSun_78 : decode prog_13_method_84_code 78 = .ok (.iload_n 2, 1) := by decide +kernel
theorem d_Mo_laysLeastSun_79 : decode prog_13_method_84_code 79 = .ok (.iaload, 1) := by decide +kernel
theorem d_Mo_laysLeastSun_80 : decode prog_13_method_84_code 80 = .ok (.putfield 428, 3) := by decide +kernel
theorem d_Mo_laysLeastSun_83 : decode prog_13_method_84_code 83 = .ok (.aload_n 0, 1) := by decide +kernel
theorem d_Mo_laysLeastSun_84 : decode prog_13_method_84_code 84 = .ok (.iload 4, 2) := by decide +kernel
theorem d_Mo_laysLeastSun_86 : decode prog_13_method_84_code 86 = .ok (.putfield 431, 3) := by decide +kernel
theorem d_Mo_laysLeastSun_70 : decode prog_13_method_84_code 70 = .ok (.if_icmp .ge 19, 3) := by decide +kernel
theorem d_Mo_laysLeastSun_89 : decode prog_13_method_84_code 89 = .ok (.iload_n 3, 1) := by decide +kernel
theorem d_Mo_laysLeastSun_90 : decode prog_13_method_84_code 90 = .ok (.iload 4, 2) := by decide +kernel
theorem d_Mo_laysLeastSun_92 : decode prog_13_method_84_code 92 = .ok (.iconst 1, 1) := by decide +kernel
theorem d_Mo_laysLeastSun_93 : decode prog_13_method_84_code 93 = .ok (.iadd, 1) := by decide +kernel
theorem d_Mo_laysLeastSun_94 : decode prog_13_method_84_code 94 = .ok (.invokestatic 419, 3) := by decide +kernel
theorem k_Mo_hourOf : MOk m_Mo_hourOf 2 ∧ Cond.static m_Mo_hourOf.1 ∈ tblG := ⟨⟨atG 1876 (by decide +kernel) rfl, atG 122 (by decide +kernel) rfl, ⟨by decide, by decide⟩, by decide +kernel, by decide⟩, atG 1875 (by decide +kernel) rfl⟩
theorem lk_Mo_419 : Cond.methodLink "ShadeTownModel" 419 ⟨"ShadeTownModel", "hourOf", "(II)I"⟩ ∈ tblG := atG 1874 (by decide +kernel) rfl
theorem d_Mo_laysLeastSun_97 : decode prog_13_method_84_code 97 = .ok (.istore 5, 2) := by decide +kernel
theorem d_Mo_laysLeastSun_99 : decode prog_13_method_84_code 99 = .ok (.iconst 0, 1) := by decide +kernel
theorem d_Mo_laysLeastSun_100 : decode prog_13_method_84_code 100 = .ok (.istore 6, 2) := by decide +kernel
theorem d_Mo_laysLeastSun_102 : decode prog_13_method_84_code 102 = .ok (.iload 6, 2) := by decide +kernel
theorem d_Mo_laysLeastSun_104 : decode prog_13_method_84_code 104 = .ok (.sipush 144, 3) := by decide +kernel
theorem d_Mo_laysLeastSun_110 : decode prog_13_method_84_code 110 = .ok (.aload_n 0, 1) := by decide +kernel
theorem d_Mo_laysLeastSun_111 : decode prog_13_method_84_code 111 = .ok (.getfield 78, 3) := by decide +kernel
theorem d_Mo_laysLeastSun_114 : decode prog_13_method_84_code 114 = .ok (.iload 6, 2) := by decide +kernel
theorem d_Mo_laysLeastSun_116 : decode prog_13_method_84_code 116 = .ok (.baload, 1) := by decide +kernel
theorem d_Mo_laysLeastSun_129 : decode prog_13_method_84_code 129 = .ok (.ldc_w 403, 3) := by decide +kernel
theorem d_Mo_laysLeastSun_120 : decode prog_13_method_84_code 120 = .ok (.aload_n 0, 1) := by decide +kernel
theorem d_Mo_laysLeastSun_121 : decode prog_13_method_84_code 121 = .ok (.iload 6, 2) := by decide +kernel
theorem d_Mo_laysLeastSun_123 : decode prog_13_method_84_code 123 = .ok (.invokevirtual 434, 3) := by decide +kernel
theorem k_Mo_leastSunTo : MOk m_Mo_leastSunTo 1 ∧ IOk m_Mo_leastSunTo := ⟨⟨atG 1892 (by decide +kernel) rfl, atG 122 (by decide +kernel) rfl, ⟨by decide, by decide⟩, by decide +kernel, by decide⟩, atG 1891 (by decide +kernel) rfl, atG 90 (by decide +kernel) rfl⟩
theorem lk_Mo_434 : Cond.methodLink "ShadeTownModel" 434 ⟨"ShadeTownModel", "leastSunTo", "(I)I"⟩ ∈ tblG := atG 1889 (by decide +kernel) rfl
theorem d_Mo_laysLeastSun_126 : decode prog_13_method_84_code 126 = .ok (.goto 6, 3) := by decide +kernel
theorem d_Mo_laysLeastSun_117 : decode prog_13_method_84_code 117 = .ok (.ifCond .eq 12, 3) := by decide +kernel
theorem d_Mo_laysLeastSun_132 : decode prog_13_method_84_code 132 = .ok (.istore 7, 2) := by decide +kernel
theorem d_Mo_laysLeastSun_134 : decode prog_13_method_84_code 134 = .ok (.aload_n 0, 1) := by decide +kernel
theorem fl_Mo_93 : FL "ShadeTownModel" 93 T_Mo 44 := atG 1376 (by decide +kernel) rfl
theorem d_Mo_laysLeastSun_135 : decode prog_13_method_84_code 135 = .ok (.getfield 93, 3) := by decide +kernel
theorem d_Mo_laysLeastSun_138 : decode prog_13_method_84_code 138 = .ok (.iload 6, 2) := by decide +kernel
theorem d_Mo_laysLeastSun_140 : decode prog_13_method_84_code 140 = .ok (.iload 7, 2) := by decide +kernel
theorem d_Mo_laysLeastSun_142 : decode prog_13_method_84_code 142 = .ok (.ldc_w 403, 3) := by decide +kernel
theorem d_Mo_laysLeastSun_154 : decode prog_13_method_84_code 154 = .ok (.iload 7, 2) := by decide +kernel
theorem d_Mo_laysLeastSun_156 : decode prog_13_method_84_code 156 = .ok (.aload_n 0, 1) := by decide +kernel
theorem d_Mo_laysLeastSun_157 : decode prog_13_method_84_code 157 = .ok (.iload 5, 2) := by decide +kernel
theorem d_Mo_laysLeastSun_159 : decode prog_13_method_84_code 159 = .ok (.iload 6, 2) := by decide +kernel
theorem d_Mo_laysLeastSun_161 : decode prog_13_method_84_code 161 = .ok (.invokevirtual 422, 3) := by decide +kernel
theorem k_Mo_isDark : MOk m_Mo_isDark 2 ∧ IOk m_Mo_isDark := ⟨⟨atG 1880 (by decide +kernel) rfl, atG 122 (by decide +kernel) rfl, ⟨by decide, by decide⟩, by decide +kernel, by decide⟩, atG 1879 (by decide +kernel) rfl, atG 87 (by decide +kernel) rfl⟩
theorem lk_Mo_422 : Cond.methodLink "ShadeTownModel" 422 ⟨"ShadeTownModel", "isDark", "(II)Z"⟩ ∈ tblG := atG 1877 (by decide +kernel) rfl
theorem d_Mo_laysLeastSun_171 : decode prog_13_method_84_code 171 = .ok (.iconst 1, 1) := by decide +kernel
theorem d_Mo_laysLeastSun_167 : decode prog_13_method_84_code 167 = .ok (.iconst 0, 1) := by decide +kernel
theorem d_Mo_laysLeastSun_168 : decode prog_13_method_84_code 168 = .ok (.goto 4, 3) := by decide +kernel
theorem d_Mo_laysLeastSun_164 : decode prog_13_method_84_code 164 = .ok (.ifCond .eq 7, 3) := by decide +kernel
theorem d_Mo_laysLeastSun_172 : decode prog_13_method_84_code 172 = .ok (.iadd, 1) := by decide +kernel
theorem d_Mo_laysLeastSun_148 : decode prog_13_method_84_code 148 = .ok (.ldc_w 403, 3) := by decide +kernel
theorem d_Mo_laysLeastSun_151 : decode prog_13_method_84_code 151 = .ok (.goto 22, 3) := by decide +kernel
theorem d_Mo_laysLeastSun_145 : decode prog_13_method_84_code 145 = .ok (.if_icmp .lt 9, 3) := by decide +kernel
theorem d_Mo_laysLeastSun_173 : decode prog_13_method_84_code 173 = .ok (.iastore, 1) := by decide +kernel
theorem d_Mo_laysLeastSun_174 : decode prog_13_method_84_code 174 = .ok (.iinc 6 1, 3) := by decide +kernel
theorem d_Mo_laysLeastSun_177 : decode prog_13_method_84_code 177 = .ok (.goto (-75), 3) := by decide +kernel
theorem d_Mo_laysLeastSun_107 : decode prog_13_method_84_code 107 = .ok (.if_icmp .ge 73, 3) := by decide +kernel
theorem d_Mo_laysLeastSun_180 : decode prog_13_method_84_code 180 = .ok (.iconst 0, 1) := by decide +kernel
theorem d_Mo_laysLeastSun_181 : decode prog_13_method_84_code 181 = .ok (.istore 6, 2) := by decide +kernel
theorem d_Mo_laysLeastSun_183 : decode prog_13_method_84_code 183 = .ok (.iload 6, 2) := by decide +kernel
theorem d_Mo_laysLeastSun_185 : decode prog_13_method_84_code 185 = .ok (.sipush 144, 3) := by decide +kernel
theorem d_Mo_laysLeastSun_191 : decode prog_13_method_84_code 191 = .ok (.aload_n 0, 1) := by decide +kernel
theorem d_Mo_laysLeastSun_192 : decode prog_13_method_84_code 192 = .ok (.getfield 90, 3) := by decide +kernel
theorem d_Mo_laysLeastSun_195 : decode prog_13_method_84_code 195 = .ok (.iload 6, 2) := by decide +kernel
theorem d_Mo_laysLeastSun_197 : decode prog_13_method_84_code 197 = .ok (.aload_n 0, 1) := by decide +kernel
theorem d_Mo_laysLeastSun_198 : decode prog_13_method_84_code 198 = .ok (.getfield 93, 3) := by decide +kernel
theorem d_Mo_laysLeastSun_201 : decode prog_13_method_84_code 201 = .ok (.iload 6, 2) := by decide +kernel
theorem d_Mo_laysLeastSun_203 : decode prog_13_method_84_code 203 = .ok (.iaload, 1) := by decide +kernel
theorem d_Mo_laysLeastSun_204 : decode prog_13_method_84_code 204 = .ok (.iastore, 1) := by decide +kernel
theorem d_Mo_laysLeastSun_205 : decode prog_13_method_84_code 205 = .ok (.iinc 6 1, 3) := by decide +kernel
theorem d_Mo_laysLeastSun_208 : decode prog_13_method_84_code 208 = .ok (.goto (-25), 3) := by decide +kernel
theorem d_Mo_laysLeastSun_188 : decode prog_13_method_84_code 188 = .ok (.if_icmp .ge 23, 3) := by decide +kernel
theorem d_Mo_laysLeastSun_211 : decode prog_13_method_84_code 211 = .ok (.iinc 4 1, 3) := by decide +kernel
theorem d_Mo_laysLeastSun_214 : decode prog_13_method_84_code 214 = .ok (.goto (-161), 3) := by decide +kernel
theorem d_Mo_laysLeastSun_57 : decode prog_13_method_84_code 57 = .ok (.if_icmp .gt 160, 3) := by decide +kernel
def B_Mo_laysLeastSun_l16 (N : Nat) (a1 : Int32) (a2 : Int32) (a3 : Int32) (rec : Int32 → Mem → Option (Mem)) (x4 : Int32) (σ : Mem) : Option (Mem) :=
  if 144 ≤ x4 then
    (some σ)
  else
    (bnd1 ((
      if x4 = a1 then
        (some 0)
      else
        (some 1000000000)) : Option (Int32)) fun y33_s2 =>
    grd (inb x4 144) <|
    letv (sI σ 92 (x4.toNatClampNeg) y33_s2) fun σ43 =>
    letv (x4 + 1) fun v44 =>
    rec v44 σ43)
def L_Mo_laysLeastSun_l16 (N : Nat) (a1 : Int32) (a2 : Int32) (a3 : Int32) : Nat → Int32 → Mem → Option (Mem)
  | 0, _, _ => none
  | k + 1, x4, σ => B_Mo_laysLeastSun_l16 N a1 a2 a3 (L_Mo_laysLeastSun_l16 N a1 a2 a3 k) x4 σ
set_option maxHeartbeats 4000000 in
set_option maxRecDepth 20000 in
theorem cL_Mo_laysLeastSun_l16 (Z : ZX) {Y : YX} {Q : State → Prop} {N : Nat} {a1 : Int32} {a2 : Int32} {a3 : Int32} {Good : Mem → Prop} (hE : ∀ (σe : Mem), Good σe → V (mkB Z) Y m_Mo_laysLeastSun 3 Q 0 0 nC σe 50 [(0, rf Z 65), (2, .int a2), (3, .int a3)] []) : ∀ (k : Nat) (x4 : Int32) (σ : Mem) (res : Mem), L_Mo_laysLeastSun_l16 N a1 a2 a3 k x4 σ = some res → Good res → V (mkB Z) Y m_Mo_laysLeastSun 3 Q 0 0 nC σ 16 [(0, rf Z 65), (1, .int a1), (2, .int a2), (3, .int a3), (4, .int x4)] [] := by
  intro k
  induction k with
  | zero => intro x4 σ res h; cases h
  | succ k ih =>
    intro x4 σ res h hg
    replace h : B_Mo_laysLeastSun_l16 N a1 a2 a3 (L_Mo_laysLeastSun_l16 N a1 a2 a3 k) x4 σ = some res := h
    unfold B_Mo_laysLeastSun_l16 at h
    refine V.iload d_Mo_laysLeastSun_16 4 rfl ?_
    refine V.sipush (v := 144) d_Mo_laysLeastSun_18 (by decide) ?_
    refine V.icmp_ge (tgt := 50) d_Mo_laysLeastSun_21 (by decide) (fun hc21 => ?_) (fun hc21 => ?_)
    · replace h := ite_t hc21 h
      cases h
      exact V.pick [0, 2, 3] rfl (hE _ hg)
    · replace h := ite_f hc21 h
      refine V.aload_n d_Mo_laysLeastSun_24 rfl 0 rfl ?_
      refine V.getR (r := 92) ok_Mo fl_Mo_90 (by decide) (by decide) ly_65 rfl d_Mo_laysLeastSun_25 ?_
      refine V.iload d_Mo_laysLeastSun_28 4 rfl ?_
      refine V.iload d_Mo_laysLeastSun_30 4 rfl ?_
      refine V.iload_n d_Mo_laysLeastSun_32 rfl 1 rfl ?_
      obtain ⟨s33, h1, h⟩ := bnd1_e h
      have J33_43 : ∀ (y33_s2 : Int32), s33 = y33_s2 → V (mkB Z) Y m_Mo_laysLeastSun 3 Q 0 0 nC σ 43 [(0, rf Z 65), (1, .int a1), (2, .int a2), (3, .int a3), (4, .int x4)] [.int y33_s2, .int x4, rf Z 92] := by
        intro y33_s2 he
        rw [he] at h
        obtain ⟨gq, h⟩ := grd_e h
        obtain ⟨σ43, e_σ43, h⟩ := letv_e h
        refine V.wa (by decide) ly_92 (inb_e gq) rfl d_Mo_laysLeastSun_43 e_σ43 ?_
        obtain ⟨v44, e_v44, h⟩ := letv_e h
        refine V.iinc (v := v44) (lv' := [(4, .int v44), (0, rf Z 65), (1, .int a1), (2, .int a2), (3, .int a3)]) d_Mo_laysLeastSun_44 4 rfl (by rw [e_v44]; rfl) (by decide) rfl ?_
        refine V.goto (tgt := 16) d_Mo_laysLeastSun_47 (by decide) ?_
        exact V.pick [1, 2, 3, 4, 0] rfl (ih _ _ _ h hg)
      replace h := h1
      refine V.icmp_ne (tgt := 40) d_Mo_laysLeastSun_33 (by decide) (fun hc33 => ?_) (fun hc33 => ?_)
      · replace h := ite_f hc33 h
        refine V.ldcw (v := 1000000000) kc_Mo_403 d_Mo_laysLeastSun_40 ?_
        exact V.pick [0, 1, 2, 3, 4] rfl (J33_43 _ (Option.some.inj h).symm)
      · replace h := ite_t hc33 h
        refine V.iconst (v := 0) d_Mo_laysLeastSun_36 (by decide) ?_
        refine V.goto (tgt := 43) d_Mo_laysLeastSun_37 (by decide) ?_
        exact V.pick [0, 1, 2, 3, 4] rfl (J33_43 _ (Option.some.inj h).symm)
def B_Mo_laysLeastSun_l102 (N : Nat) (a2 : Int32) (a3 : Int32) (a4 : Int32) (a5 : Int32) (rec : Int32 → Mem → Option (Mem)) (x6 : Int32) (σ : Mem) : Option (Mem) :=
  if 144 ≤ x6 then
    (some σ)
  else
    (grd (inb x6 144) <|
    bnd1 ((
      if (mI σ 88 (x6.toNatClampNeg)) = 0 then
        (some 1000000000)
      else
        (bnd1 (f_Mo_leastSunTo N σ x6) fun r123 =>
        some r123)) : Option (Int32)) fun y117_s0 =>
    bnd1 ((
      if y117_s0 < 1000000000 then
        (bnd1 (f_Mo_isDark σ a5 x6) fun r161 =>
        bnd1 ((
          if r161 = 0 then
            (some 1)
          else
            (some 0)) : Option (Int32)) fun y164_s3 =>
        some (y117_s0 + y164_s3))
      else
        (some 1000000000)) : Option (Int32)) fun y145_s2 =>
    grd (inb x6 144) <|
    letv (sI σ 93 (x6.toNatClampNeg) y145_s2) fun σ173 =>
    letv (x6 + 1) fun v174 =>
    rec v174 σ173)
def L_Mo_laysLeastSun_l102 (N : Nat) (a2 : Int32) (a3 : Int32) (a4 : Int32) (a5 : Int32) : Nat → Int32 → Mem → Option (Mem)
  | 0, _, _ => none
  | k + 1, x6, σ => B_Mo_laysLeastSun_l102 N a2 a3 a4 a5 (L_Mo_laysLeastSun_l102 N a2 a3 a4 a5 k) x6 σ
set_option maxHeartbeats 4000000 in
set_option maxRecDepth 20000 in
theorem cL_Mo_laysLeastSun_l102 (Z : ZX) {Y : YX} {Q : State → Prop} {N : Nat} {a2 : Int32} {a3 : Int32} {a4 : Int32} {a5 : Int32} {Good : Mem → Prop} (hE : ∀ (σe : Mem), Good σe → V (mkB Z) Y m_Mo_laysLeastSun 3 Q 0 0 nC σe 180 [(0, rf Z 65), (2, .int a2), (3, .int a3), (4, .int a4)] []) : ∀ (k : Nat) (x6 : Int32) (σ : Mem) (res : Mem), L_Mo_laysLeastSun_l102 N a2 a3 a4 a5 k x6 σ = some res → Good res → V (mkB Z) Y m_Mo_laysLeastSun 3 Q 0 0 nC σ 102 [(0, rf Z 65), (2, .int a2), (3, .int a3), (4, .int a4), (5, .int a5), (6, .int x6)] [] := by
  intro k
  induction k with
  | zero => intro x6 σ res h; cases h
  | succ k ih =>
    intro x6 σ res h hg
    replace h : B_Mo_laysLeastSun_l102 N a2 a3 a4 a5 (L_Mo_laysLeastSun_l102 N a2 a3 a4 a5 k) x6 σ = some res := h
    unfold B_Mo_laysLeastSun_l102 at h
    refine V.iload d_Mo_laysLeastSun_102 5 rfl ?_
    refine V.sipush (v := 144) d_Mo_laysLeastSun_104 (by decide) ?_
    refine V.icmp_ge (tgt := 180) d_Mo_laysLeastSun_107 (by decide) (fun hc107 => ?_) (fun hc107 => ?_)
    · replace h := ite_t hc107 h
      cases h
      exact V.pick [0, 1, 2, 3] rfl (hE _ hg)
    · replace h := ite_f hc107 h
      refine V.aload_n d_Mo_laysLeastSun_110 rfl 0 rfl ?_
      refine V.getR (r := 88) ok_Mo fl_Mo_78 (by decide) (by decide) ly_65 rfl d_Mo_laysLeastSun_111 ?_
      refine V.iload d_Mo_laysLeastSun_114 5 rfl ?_
      obtain ⟨gq, h⟩ := grd_e h
      refine V.rz (by decide) ly_88 (inb_e gq) rfl d_Mo_laysLeastSun_116 ?_
      obtain ⟨s117, h1, h⟩ := bnd1_e h
      have J117_132 : ∀ (y117_s0 : Int32), s117 = y117_s0 → V (mkB Z) Y m_Mo_laysLeastSun 3 Q 0 0 nC σ 132 [(0, rf Z 65), (2, .int a2), (3, .int a3), (4, .int a4), (5, .int a5), (6, .int x6)] [.int y117_s0] := by
        intro y117_s0 he
        rw [he] at h
        refine V.istore (lv' := [(7, .int y117_s0), (0, rf Z 65), (2, .int a2), (3, .int a3), (4, .int a4), (5, .int a5), (6, .int x6)]) d_Mo_laysLeastSun_132 (by decide) rfl ?_
        refine V.aload_n d_Mo_laysLeastSun_134 rfl 1 rfl ?_
        refine V.getR (r := 93) ok_Mo fl_Mo_93 (by decide) (by decide) ly_65 rfl d_Mo_laysLeastSun_135 ?_
        refine V.iload d_Mo_laysLeastSun_138 6 rfl ?_
        refine V.iload d_Mo_laysLeastSun_140 0 rfl ?_
        refine V.ldcw (v := 1000000000) kc_Mo_403 d_Mo_laysLeastSun_142 ?_
        obtain ⟨s145, h1, h⟩ := bnd1_e h
        have J145_173 : ∀ (y145_s2 : Int32), s145 = y145_s2 → V (mkB Z) Y m_Mo_laysLeastSun 3 Q 0 0 nC σ 173 [(0, rf Z 65), (2, .int a2), (3, .int a3), (4, .int a4), (5, .int a5), (6, .int x6)] [.int y145_s2, .int x6, rf Z 93] := by
          intro y145_s2 he
          rw [he] at h
          obtain ⟨gq, h⟩ := grd_e h
          obtain ⟨σ173, e_σ173, h⟩ := letv_e h
          refine V.wa (by decide) ly_93 (inb_e gq) rfl d_Mo_laysLeastSun_173 e_σ173 ?_
          obtain ⟨v174, e_v174, h⟩ := letv_e h
          refine V.iinc (v := v174) (lv' := [(6, .int v174), (0, rf Z 65), (2, .int a2), (3, .int a3), (4, .int a4), (5, .int a5)]) d_Mo_laysLeastSun_174 5 rfl (by rw [e_v174]; rfl) (by decide) rfl ?_
          refine V.goto (tgt := 102) d_Mo_laysLeastSun_177 (by decide) ?_
          exact V.pick [1, 2, 3, 4, 5, 0] rfl (ih _ _ _ h hg)
        replace h := h1
        refine V.icmp_lt (tgt := 154) d_Mo_laysLeastSun_145 (by decide) (fun hc145 => ?_) (fun hc145 => ?_)
        · replace h := ite_t hc145 h
          refine V.iload d_Mo_laysLeastSun_154 0 rfl ?_
          refine V.aload_n d_Mo_laysLeastSun_156 rfl 1 rfl ?_
          refine V.iload d_Mo_laysLeastSun_157 5 rfl ?_
          refine V.iload d_Mo_laysLeastSun_159 6 rfl ?_
          obtain ⟨r161, h1, h⟩ := bnd1_e h
          refine V.vI (as := [.int a5, .int x6]) (st := [.int y117_s0, .int x6, rf Z 93]) (c_Mo_isDark Z h1) k_Mo_isDark lk_Mo_422 (by decide) rfl (by decide) ly_65 ok_Mo.1 rfl (Nat.le_of_ble_eq_true rfl) d_Mo_laysLeastSun_161 ?_
          obtain ⟨s164, h1, h⟩ := bnd1_e h
          have J164_172 : ∀ (y164_s3 : Int32), s164 = y164_s3 → V (mkB Z) Y m_Mo_laysLeastSun 3 Q 0 0 nC σ 172 [(0, rf Z 65), (2, .int a2), (3, .int a3), (4, .int a4), (5, .int a5), (6, .int x6)] [.int y164_s3, .int y117_s0, .int x6, rf Z 93] := by
            intro y164_s3 he
            rw [he] at h
            refine V.iadd d_Mo_laysLeastSun_172 ?_
            exact V.pick [0, 1, 2, 3, 4, 5] rfl (J145_173 _ (Option.some.inj h).symm)
          replace h := h1
          refine V.if_eq (tgt := 171) d_Mo_laysLeastSun_164 (by decide) (fun hc164 => ?_) (fun hc164 => ?_)
          · replace h := ite_t hc164 h
            refine V.iconst (v := 1) d_Mo_laysLeastSun_171 (by decide) ?_
            exact V.pick [1, 2, 3, 4, 5, 6] rfl (J164_172 _ (Option.some.inj h).symm)
          · replace h := ite_f hc164 h
            refine V.iconst (v := 0) d_Mo_laysLeastSun_167 (by decide) ?_
            refine V.goto (tgt := 172) d_Mo_laysLeastSun_168 (by decide) ?_
            exact V.pick [1, 2, 3, 4, 5, 6] rfl (J164_172 _ (Option.some.inj h).symm)
        · replace h := ite_f hc145 h
          refine V.ldcw (v := 1000000000) kc_Mo_403 d_Mo_laysLeastSun_148 ?_
          refine V.goto (tgt := 173) d_Mo_laysLeastSun_151 (by decide) ?_
          exact V.pick [1, 2, 3, 4, 5, 6] rfl (J145_173 _ (Option.some.inj h).symm)
      replace h := h1
      refine V.if_eq (tgt := 129) d_Mo_laysLeastSun_117 (by decide) (fun hc117 => ?_) (fun hc117 => ?_)
      · replace h := ite_t hc117 h
        refine V.ldcw (v := 1000000000) kc_Mo_403 d_Mo_laysLeastSun_129 ?_
        exact V.pick [0, 1, 2, 3, 4, 5] rfl (J117_132 _ (Option.some.inj h).symm)
      · replace h := ite_f hc117 h
        refine V.aload_n d_Mo_laysLeastSun_120 rfl 0 rfl ?_
        refine V.iload d_Mo_laysLeastSun_121 5 rfl ?_
        obtain ⟨r123, h1, h⟩ := bnd1_e h
        refine V.vI (as := [.int x6]) (st := []) (c_Mo_leastSunTo Z h1) k_Mo_leastSunTo lk_Mo_434 (by decide) rfl (by decide) ly_65 ok_Mo.1 rfl (Nat.le_of_ble_eq_true rfl) d_Mo_laysLeastSun_123 ?_
        refine V.goto (tgt := 132) d_Mo_laysLeastSun_126 (by decide) ?_
        exact V.pick [0, 1, 2, 3, 4, 5] rfl (J117_132 _ (Option.some.inj h).symm)
def B_Mo_laysLeastSun_l183 (N : Nat) (a2 : Int32) (a3 : Int32) (a4 : Int32) (rec : Int32 → Mem → Option (Mem)) (x6 : Int32) (σ : Mem) : Option (Mem) :=
  if 144 ≤ x6 then
    (some σ)
  else
    (grd (inb x6 144) <|
    grd (inb x6 144) <|
    letv (sI σ 92 (x6.toNatClampNeg) (mI σ 93 (x6.toNatClampNeg))) fun σ204 =>
    letv (x6 + 1) fun v205 =>
    rec v205 σ204)
def L_Mo_laysLeastSun_l183 (N : Nat) (a2 : Int32) (a3 : Int32) (a4 : Int32) : Nat → Int32 → Mem → Option (Mem)
  | 0, _, _ => none
  | k + 1, x6, σ => B_Mo_laysLeastSun_l183 N a2 a3 a4 (L_Mo_laysLeastSun_l183 N a2 a3 a4 k) x6 σ
set_option maxHeartbeats 4000000 in
set_option maxRecDepth 20000 in
theorem cL_Mo_laysLeastSun_l183 (Z : ZX) {Y : YX} {Q : State → Prop} {N : Nat} {a2 : Int32} {a3 : Int32} {a4 : Int32} {Good : Mem → Prop} (hE : ∀ (σe : Mem), Good σe → V (mkB Z) Y m_Mo_laysLeastSun 3 Q 0 0 nC σe 211 [(0, rf Z 65), (2, .int a2), (3, .int a3), (4, .int a4)] []) : ∀ (k : Nat) (x6 : Int32) (σ : Mem) (res : Mem), L_Mo_laysLeastSun_l183 N a2 a3 a4 k x6 σ = some res → Good res → V (mkB Z) Y m_Mo_laysLeastSun 3 Q 0 0 nC σ 183 [(0, rf Z 65), (2, .int a2), (3, .int a3), (4, .int a4), (6, .int x6)] [] := by
  intro k
  induction k with
  | zero => intro x6 σ res h; cases h
  | succ k ih =>
    intro x6 σ res h hg
    replace h : B_Mo_laysLeastSun_l183 N a2 a3 a4 (L_Mo_laysLeastSun_l183 N a2 a3 a4 k) x6 σ = some res := h
    unfold B_Mo_laysLeastSun_l183 at h
    refine V.iload d_Mo_laysLeastSun_183 4 rfl ?_
    refine V.sipush (v := 144) d_Mo_laysLeastSun_185 (by decide) ?_
    refine V.icmp_ge (tgt := 211) d_Mo_laysLeastSun_188 (by decide) (fun hc188 => ?_) (fun hc188 => ?_)
    · replace h := ite_t hc188 h
      cases h
      exact V.pick [0, 1, 2, 3] rfl (hE _ hg)
    · replace h := ite_f hc188 h
      refine V.aload_n d_Mo_laysLeastSun_191 rfl 0 rfl ?_
      refine V.getR (r := 92) ok_Mo fl_Mo_90 (by decide) (by decide) ly_65 rfl d_Mo_laysLeastSun_192 ?_
      refine V.iload d_Mo_laysLeastSun_195 4 rfl ?_
      refine V.aload_n d_Mo_laysLeastSun_197 rfl 0 rfl ?_
      refine V.getR (r := 93) ok_Mo fl_Mo_93 (by decide) (by decide) ly_65 rfl d_Mo_laysLeastSun_198 ?_
      refine V.iload d_Mo_laysLeastSun_201 4 rfl ?_
      obtain ⟨gq, h⟩ := grd_e h
      refine V.ra (by decide) ly_93 (inb_e gq) rfl d_Mo_laysLeastSun_203 ?_
      obtain ⟨gq, h⟩ := grd_e h
      obtain ⟨σ204, e_σ204, h⟩ := letv_e h
      refine V.wa (by decide) ly_92 (inb_e gq) rfl d_Mo_laysLeastSun_204 e_σ204 ?_
      obtain ⟨v205, e_v205, h⟩ := letv_e h
      refine V.iinc (v := v205) (lv' := [(6, .int v205), (0, rf Z 65), (2, .int a2), (3, .int a3), (4, .int a4)]) d_Mo_laysLeastSun_205 4 rfl (by rw [e_v205]; rfl) (by decide) rfl ?_
      refine V.goto (tgt := 183) d_Mo_laysLeastSun_208 (by decide) ?_
      exact V.pick [1, 2, 3, 4, 0] rfl (ih _ _ _ h hg)
def B_Mo_laysLeastSun_l53 (N : Nat) (a2 : Int32) (a3 : Int32) (rec : Int32 → Mem → Option (Mem)) (x4 : Int32) (σ : Mem) : Option (Mem) :=
  if 36 < x4 then
    (some σ)
  else
    (grd (inb a2 144) <|
    bnd1 ((
      if (mI σ 65 45) ≤ (mI σ 92 (a2.toNatClampNeg)) then
        (some σ)
      else
        (grd (inb a2 144) <|
        letv (sI σ 65 45 (mI σ 92 (a2.toNatClampNeg))) fun σ80 =>
        letv (sI σ80 65 46 x4) fun σ86 =>
        some σ86)) : Option (Mem)) fun σ70_ =>
    bnd1 (f_Mo_hourOf a3 (x4 + 1)) fun r94 =>
    bnd1 (L_Mo_laysLeastSun_l102 N a2 a3 x4 r94 N 0 σ70_) fun σ102_ =>
    bnd1 (L_Mo_laysLeastSun_l183 N a2 a3 x4 N 0 σ102_) fun σ183_ =>
    letv (x4 + 1) fun v211 =>
    rec v211 σ183_)
def L_Mo_laysLeastSun_l53 (N : Nat) (a2 : Int32) (a3 : Int32) : Nat → Int32 → Mem → Option (Mem)
  | 0, _, _ => none
  | k + 1, x4, σ => B_Mo_laysLeastSun_l53 N a2 a3 (L_Mo_laysLeastSun_l53 N a2 a3 k) x4 σ
set_option maxHeartbeats 4000000 in
set_option maxRecDepth 20000 in
theorem cL_Mo_laysLeastSun_l53 (Z : ZX) {Y : YX} {post : Option Value → Mem → Prop} {N : Nat} {a2 : Int32} {a3 : Int32} {Good : Mem → Prop} (hR : ∀ (σr : Mem), Good σr → post none σr) : ∀ (k : Nat) (x4 : Int32) (σ : Mem) (res : Mem), L_Mo_laysLeastSun_l53 N a2 a3 k x4 σ = some res → Good res → V (mkB Z) Y m_Mo_laysLeastSun 3 (QP (mkB Z) Y nC 0 0 post) 0 0 nC σ 53 [(0, rf Z 65), (2, .int a2), (3, .int a3), (4, .int x4)] [] := by
  intro k
  induction k with
  | zero => intro x4 σ res h; cases h
  | succ k ih =>
    intro x4 σ res h hg
    replace h : B_Mo_laysLeastSun_l53 N a2 a3 (L_Mo_laysLeastSun_l53 N a2 a3 k) x4 σ = some res := h
    unfold B_Mo_laysLeastSun_l53 at h
    refine V.iload d_Mo_laysLeastSun_53 3 rfl ?_
    refine V.bipush (v := 36) d_Mo_laysLeastSun_55 (by decide) ?_
    refine V.icmp_gt (tgt := 217) d_Mo_laysLeastSun_57 (by decide) (fun hc57 => ?_) (fun hc57 => ?_)
    · replace h := ite_t hc57 h
      cases h
      exact V.vret rfl d_Mo_laysLeastSun_217 (hR _ hg)
    · replace h := ite_f hc57 h
      refine V.aload_n d_Mo_laysLeastSun_60 rfl 0 rfl ?_
      refine V.getR (r := 92) ok_Mo fl_Mo_90 (by decide) (by decide) ly_65 rfl d_Mo_laysLeastSun_61 ?_
      refine V.iload_n d_Mo_laysLeastSun_64 rfl 1 rfl ?_
      obtain ⟨gq, h⟩ := grd_e h
      refine V.ra (by decide) ly_92 (inb_e gq) rfl d_Mo_laysLeastSun_65 ?_
      refine V.aload_n d_Mo_laysLeastSun_66 rfl 0 rfl ?_
      refine V.getI ok_Mo fl_Mo_428 (by decide) (by decide) ly_65 rfl d_Mo_laysLeastSun_67 ?_
      obtain ⟨s70, h1, h⟩ := bnd1_e h
      have J70_89 : ∀ (σ70_ : Mem), s70 = σ70_ → V (mkB Z) Y m_Mo_laysLeastSun 3 (QP (mkB Z) Y nC 0 0 post) 0 0 nC σ70_ 89 [(0, rf Z 65), (2, .int a2), (3, .int a3), (4, .int x4)] [] := by
        intro σ70_ he
        rw [he] at h
        refine V.iload_n d_Mo_laysLeastSun_89 rfl 2 rfl ?_
        refine V.iload d_Mo_laysLeastSun_90 3 rfl ?_
        refine V.iconst (v := 1) d_Mo_laysLeastSun_92 (by decide) ?_
        refine V.iadd d_Mo_laysLeastSun_93 ?_
        obtain ⟨r94, h1, h⟩ := bnd1_e h
        refine V.sI (as := [.int a3, .int (x4 + 1)]) (st := []) (c_Mo_hourOf Z h1) k_Mo_hourOf lk_Mo_419 (by decide) rfl rfl (Nat.le_of_ble_eq_true rfl) d_Mo_laysLeastSun_94 ?_
        refine V.istore (lv' := [(5, .int r94), (0, rf Z 65), (2, .int a2), (3, .int a3), (4, .int x4)]) d_Mo_laysLeastSun_97 (by decide) rfl ?_
        refine V.iconst (v := 0) d_Mo_laysLeastSun_99 (by decide) ?_
        refine V.istore (lv' := [(6, .int 0), (5, .int r94), (0, rf Z 65), (2, .int a2), (3, .int a3), (4, .int x4)]) d_Mo_laysLeastSun_100 (by decide) rfl ?_
        obtain ⟨x102_, h1, h⟩ := bnd1_e h
        refine V.pick [2, 3, 4, 5, 1, 0] rfl (cL_Mo_laysLeastSun_l102 Z (Good := fun z => x102_ = z) (fun σ102_ he => ?_) N _ _ _ h1 rfl)
        · rw [he] at h
          refine V.iconst (v := 0) d_Mo_laysLeastSun_180 (by decide) ?_
          refine V.istore (lv' := [(6, .int 0), (0, rf Z 65), (2, .int a2), (3, .int a3), (4, .int x4)]) d_Mo_laysLeastSun_181 (by decide) rfl ?_
          obtain ⟨x183_, h1, h⟩ := bnd1_e h
          refine V.pick [1, 2, 3, 4, 0] rfl (cL_Mo_laysLeastSun_l183 Z (Good := fun z => x183_ = z) (fun σ183_ he => ?_) N _ _ _ h1 rfl)
          · rw [he] at h
            obtain ⟨v211, e_v211, h⟩ := letv_e h
            refine V.iinc (v := v211) (lv' := [(4, .int v211), (0, rf Z 65), (2, .int a2), (3, .int a3)]) d_Mo_laysLeastSun_211 3 rfl (by rw [e_v211]; rfl) (by decide) rfl ?_
            refine V.goto (tgt := 53) d_Mo_laysLeastSun_214 (by decide) ?_
            exact V.pick [1, 2, 3, 0] rfl (ih _ _ _ h hg)
      replace h := h1
      refine V.icmp_ge (tgt := 89) d_Mo_laysLeastSun_70 (by decide) (fun hc70 => ?_) (fun hc70 => ?_)
      · replace h := ite_t hc70 h
        exact V.pick [0, 1, 2, 3] rfl (J70_89 _ (Option.some.inj h).symm)
      · replace h := ite_f hc70 h
        refine V.aload_n d_Mo_laysLeastSun_73 rfl 0 rfl ?_
        refine V.aload_n d_Mo_laysLeastSun_74 rfl 0 rfl ?_
        refine V.getR (r := 92) ok_Mo fl_Mo_90 (by decide) (by decide) ly_65 rfl d_Mo_laysLeastSun_75 ?_
        refine V.iload_n d_Mo_laysLeastSun_78 rfl 1 rfl ?_
        obtain ⟨gq, h⟩ := grd_e h
        refine V.ra (by decide) ly_92 (inb_e gq) rfl d_Mo_laysLeastSun_79 ?_
        obtain ⟨σ80, e_σ80, h⟩ := letv_e h
        refine V.putI ok_Mo fl_Mo_428 (by decide) (by decide) ly_65 rfl rfl rfl rfl d_Mo_laysLeastSun_80 (V.mem e_σ80 ?_)
        refine V.aload_n d_Mo_laysLeastSun_83 rfl 0 rfl ?_
        refine V.iload d_Mo_laysLeastSun_84 3 rfl ?_
        obtain ⟨σ86, e_σ86, h⟩ := letv_e h
        refine V.putI ok_Mo fl_Mo_431 (by decide) (by decide) ly_65 rfl rfl rfl rfl d_Mo_laysLeastSun_86 (V.mem e_σ86 ?_)
        exact V.pick [0, 1, 2, 3] rfl (J70_89 _ (Option.some.inj h).symm)
def f_Mo_laysLeastSun (N : Nat) (σ : Mem) (a1 : Int32) (a2 : Int32) (a3 : Int32) : Option (Mem) :=
  letv (sI σ 65 45 1000000000) fun σ4 =>
  letv (sI σ4 65 46 (-2)) fun σ10 =>
  bnd1 (L_Mo_laysLeastSun_l16 N a1 a2 a3 N 0 σ10) fun σ16_ =>
  L_Mo_laysLeastSun_l53 N a2 a3 N 0 σ16_
set_option maxHeartbeats 4000000 in
set_option maxRecDepth 20000 in
theorem c_Mo_laysLeastSun (Z : ZX) {N : Nat} {σ : Mem} {a1 : Int32} {a2 : Int32} {a3 : Int32} {σ' : Mem} (h : f_Mo_laysLeastSun N σ a1 a2 a3 = some σ') : CN Z 3 m_Mo_laysLeastSun [rf Z 65, .int a1, .int a2, .int a3] σ σ' := by
  refine Ct.of (by decide +kernel) (Nat.le_of_ble_eq_true rfl) (fun Y => ?_)
  show V (mkB Z) Y m_Mo_laysLeastSun 3 (QP (mkB Z) Y nC 0 0 (fun v t => v = none ∧ t = σ')) 0 0 nC σ 0 [(0, rf Z 65), (1, .int a1), (2, .int a2), (3, .int a3)] []
  unfold f_Mo_laysLeastSun at h
  refine V.aload_n d_Mo_laysLeastSun_0 rfl 0 rfl ?_
  refine V.ldcw (v := 1000000000) kc_Mo_403 d_Mo_laysLeastSun_1 ?_
  obtain ⟨σ4, e_σ4, h⟩ := letv_e h
  refine V.putI ok_Mo fl_Mo_428 (by decide) (by decide) ly_65 rfl rfl rfl rfl d_Mo_laysLeastSun_4 (V.mem e_σ4 ?_)
  refine V.aload_n d_Mo_laysLeastSun_7 rfl 0 rfl ?_
  refine V.bipush (v := (-2)) d_Mo_laysLeastSun_8 (by decide) ?_
  obtain ⟨σ10, e_σ10, h⟩ := letv_e h
  refine V.putI ok_Mo fl_Mo_431 (by decide) (by decide) ly_65 rfl rfl rfl rfl d_Mo_laysLeastSun_10 (V.mem e_σ10 ?_)
  refine V.iconst (v := 0) d_Mo_laysLeastSun_13 (by decide) ?_
  refine V.istore (lv' := [(4, .int 0), (0, rf Z 65), (1, .int a1), (2, .int a2), (3, .int a3)]) d_Mo_laysLeastSun_14 (by decide) rfl ?_
  obtain ⟨x16_, h1, h⟩ := bnd1_e h
  refine V.pick [1, 2, 3, 4, 0] rfl (cL_Mo_laysLeastSun_l16 Z (Good := fun z => x16_ = z) (fun σ16_ he => ?_) N _ _ _ h1 rfl)
  · rw [he] at h
    refine V.iconst (v := 0) d_Mo_laysLeastSun_50 (by decide) ?_
    refine V.istore (lv' := [(4, .int 0), (0, rf Z 65), (2, .int a2), (3, .int a3)]) d_Mo_laysLeastSun_51 (by decide) rfl ?_
    refine V.pick [1, 2, 3, 0] rfl (cL_Mo_laysLeastSun_l53 Z (Good := fun z => z = _) (fun r53m he => ?_) N _ _ _ h rfl)
    · cases he
      exact ⟨rfl, rfl⟩
abbrev m_Mo_canCome : MI := (⟨"ShadeTownModel", "canCome", "(I)Z"⟩, prog_13_method_82_code, 3, (Option.some Jvm.ClassFile.FieldType.boolean))
theorem d_Mo_canCome_0 : decode prog_13_method_82_code 0 = .ok (.iconst 0, 1) := by decide +kernel
theorem d_Mo_canCome_1 : decode prog_13_method_82_code 1 = .ok (.istore_n 2, 1) := by decide +kernel
theorem d_Mo_canCome_2 : decode prog_13_method_82_code 2 = .ok (.iload_n 2, 1) := by decide +kernel
theorem d_Mo_canCome_3 : decode prog_13_method_82_code 3 = .ok (.iconst 5, 1) := by decide +kernel
theorem d_Mo_canCome_7 : decode prog_13_method_82_code 7 = .ok (.iload_n 1, 1) := by decide +kernel
theorem d_Mo_canCome_8 : decode prog_13_method_82_code 8 = .ok (.iload_n 2, 1) := by decide +kernel
theorem d_Mo_canCome_9 : decode prog_13_method_82_code 9 = .ok (.invokestatic 404, 3) := by decide +kernel
theorem d_Mo_canCome_12 : decode prog_13_method_82_code 12 = .ok (.iconst (-1), 1) := by decide +kernel
theorem d_Mo_canCome_16 : decode prog_13_method_82_code 16 = .ok (.aload_n 0, 1) := by decide +kernel
theorem fl_Mo_84 : FL "ShadeTownModel" 84 T_Mo 41 := atG 1373 (by decide +kernel) rfl
theorem d_Mo_canCome_17 : decode prog_13_method_82_code 17 = .ok (.getfield 84, 3) := by decide +kernel
theorem d_Mo_canCome_20 : decode prog_13_method_82_code 20 = .ok (.iload_n 1, 1) := by decide +kernel
theorem d_Mo_canCome_21 : decode prog_13_method_82_code 21 = .ok (.iload_n 2, 1) := by decide +kernel
theorem d_Mo_canCome_22 : decode prog_13_method_82_code 22 = .ok (.invokestatic 404, 3) := by decide +kernel
theorem d_Mo_canCome_25 : decode prog_13_method_82_code 25 = .ok (.baload, 1) := by decide +kernel
theorem d_Mo_canCome_26 : decode prog_13_method_82_code 26 = .ok (.ifCond .eq 5, 3) := by decide +kernel
theorem d_Mo_canCome_13 : decode prog_13_method_82_code 13 = .ok (.if_icmp .eq 18, 3) := by decide +kernel
theorem d_Mo_canCome_4 : decode prog_13_method_82_code 4 = .ok (.if_icmp .ge 33, 3) := by decide +kernel
theorem d_Mo_canCome_37 : decode prog_13_method_82_code 37 = .ok (.iconst 0, 1) := by decide +kernel
theorem d_Mo_canCome_38 : decode prog_13_method_82_code 38 = .ok (.ireturn, 1) := by decide +kernel
theorem d_Mo_canCome_31 : decode prog_13_method_82_code 31 = .ok (.iinc 2 1, 3) := by decide +kernel
theorem d_Mo_canCome_34 : decode prog_13_method_82_code 34 = .ok (.goto (-32), 3) := by decide +kernel
theorem d_Mo_canCome_29 : decode prog_13_method_82_code 29 = .ok (.iconst 1, 1) := by decide +kernel
theorem d_Mo_canCome_30 : decode prog_13_method_82_code 30 = .ok (.ireturn, 1) := by decide +kernel
def B_Mo_canCome_l2 (N : Nat) (a1 : Int32) (σ : Mem) (rec : Int32 → Option (Int32)) (x2 : Int32) : Option (Int32) :=
  bnd1 ((
    if 5 ≤ x2 then
      (some 0)
    else
      (bnd1 (f_Mo_beside a1 x2) fun r9 =>
      if r9 = (-1) then
        (some 1)
      else
        (bnd1 (f_Mo_beside a1 x2) fun r22 =>
        grd (inb r22 144) <|
        if (mI σ 90 (r22.toNatClampNeg)) = 0 then
          (some 1)
        else
          (some 2)))) : Option (Nat)) fun t4b =>
  if t4b = 0 then
    (some 0)
  else
  if t4b = 1 then
    (letv (x2 + 1) fun v31 =>
    rec v31)
  else
  (some 1)
def L_Mo_canCome_l2 (N : Nat) (a1 : Int32) (σ : Mem) : Nat → Int32 → Option (Int32)
  | 0, _ => none
  | k + 1, x2 => B_Mo_canCome_l2 N a1 σ (L_Mo_canCome_l2 N a1 σ k) x2
set_option maxHeartbeats 4000000 in
set_option maxRecDepth 20000 in
theorem cL_Mo_canCome_l2 (Z : ZX) {Y : YX} {post : Option Value → Mem → Prop} {N : Nat} {a1 : Int32} {σ : Mem} {Good : Int32 → Prop} (hR : ∀ (v : Int32), Good v → post (some (.int v)) σ) : ∀ (k : Nat) (x2 : Int32) (res : Int32), L_Mo_canCome_l2 N a1 σ k x2 = some res → Good res → V (mkB Z) Y m_Mo_canCome 2 (QP (mkB Z) Y nC 0 0 post) 0 0 nC σ 2 [(0, rf Z 65), (1, .int a1), (2, .int x2)] [] := by
  intro k
  induction k with
  | zero => intro x2 res h; cases h
  | succ k ih =>
    intro x2 res h hg
    replace h : B_Mo_canCome_l2 N a1 σ (L_Mo_canCome_l2 N a1 σ k) x2 = some res := h
    unfold B_Mo_canCome_l2 at h
    refine V.iload_n d_Mo_canCome_2 rfl 2 rfl ?_
    refine V.iconst (v := 5) d_Mo_canCome_3 (by decide) ?_
    obtain ⟨s4b, h1, h⟩ := bnd1_e h
    have J4b_37 : s4b = 0 → V (mkB Z) Y m_Mo_canCome 2 (QP (mkB Z) Y nC 0 0 post) 0 0 nC σ 37 [] [] := by
      intro he
      rw [he] at h
      replace h := ite_t rfl h
      refine V.iconst (v := 0) d_Mo_canCome_37 (by decide) ?_
      cases h
      exact V.zret rfl rfl d_Mo_canCome_38 (hR _ hg)
    have J4b_31 : s4b = 1 → V (mkB Z) Y m_Mo_canCome 2 (QP (mkB Z) Y nC 0 0 post) 0 0 nC σ 31 [(0, rf Z 65), (1, .int a1), (2, .int x2)] [] := by
      intro he
      rw [he] at h
      replace h := ite_f (by decide) h
      replace h := ite_t rfl h
      obtain ⟨v31, e_v31, h⟩ := letv_e h
      refine V.iinc (v := v31) (lv' := [(2, .int v31), (0, rf Z 65), (1, .int a1)]) d_Mo_canCome_31 2 rfl (by rw [e_v31]; rfl) (by decide) rfl ?_
      refine V.goto (tgt := 2) d_Mo_canCome_34 (by decide) ?_
      exact V.pick [1, 2, 0] rfl (ih _ _ h hg)
    have J4b_29 : s4b = 2 → V (mkB Z) Y m_Mo_canCome 2 (QP (mkB Z) Y nC 0 0 post) 0 0 nC σ 29 [] [] := by
      intro he
      rw [he] at h
      replace h := ite_f (by decide) h
      replace h := ite_f (by decide) h
      refine V.iconst (v := 1) d_Mo_canCome_29 (by decide) ?_
      cases h
      exact V.zret rfl rfl d_Mo_canCome_30 (hR _ hg)
    replace h := h1
    refine V.icmp_ge (tgt := 37) d_Mo_canCome_4 (by decide) (fun hc4 => ?_) (fun hc4 => ?_)
    · replace h := ite_t hc4 h
      exact V.pick [] rfl (J4b_37 (Option.some.inj h).symm)
    · replace h := ite_f hc4 h
      refine V.iload_n d_Mo_canCome_7 rfl 1 rfl ?_
      refine V.iload_n d_Mo_canCome_8 rfl 2 rfl ?_
      obtain ⟨r9, h1, h⟩ := bnd1_e h
      refine V.sI (as := [.int a1, .int x2]) (st := []) (c_Mo_beside Z h1) k_Mo_beside lk_Mo_404 (by decide) rfl rfl (Nat.le_of_ble_eq_true rfl) d_Mo_canCome_9 ?_
      refine V.iconst (v := (-1)) d_Mo_canCome_12 (by decide) ?_
      refine V.icmp_eq (tgt := 31) d_Mo_canCome_13 (by decide) (fun hc13 => ?_) (fun hc13 => ?_)
      · replace h := ite_t hc13 h
        exact V.pick [0, 1, 2] rfl (J4b_31 (Option.some.inj h).symm)
      · replace h := ite_f hc13 h
        refine V.aload_n d_Mo_canCome_16 rfl 0 rfl ?_
        refine V.getR (r := 90) ok_Mo fl_Mo_84 (by decide) (by decide) ly_65 rfl d_Mo_canCome_17 ?_
        refine V.iload_n d_Mo_canCome_20 rfl 1 rfl ?_
        refine V.iload_n d_Mo_canCome_21 rfl 2 rfl ?_
        obtain ⟨r22, h1, h⟩ := bnd1_e h
        refine V.sI (as := [.int a1, .int x2]) (st := [rf Z 90]) (c_Mo_beside Z h1) k_Mo_beside lk_Mo_404 (by decide) rfl rfl (Nat.le_of_ble_eq_true rfl) d_Mo_canCome_22 ?_
        obtain ⟨gq, h⟩ := grd_e h
        refine V.rz (by decide) ly_90 (inb_e gq) rfl d_Mo_canCome_25 ?_
        refine V.if_eq (tgt := 31) d_Mo_canCome_26 (by decide) (fun hc26 => ?_) (fun hc26 => ?_)
        · replace h := ite_t hc26 h
          exact V.pick [0, 1, 2] rfl (J4b_31 (Option.some.inj h).symm)
        · replace h := ite_f hc26 h
          exact V.pick [] rfl (J4b_29 (Option.some.inj h).symm)
def f_Mo_canCome (N : Nat) (σ : Mem) (a1 : Int32) : Option (Int32) :=
  L_Mo_canCome_l2 N a1 σ N 0
set_option maxHeartbeats 4000000 in
set_option maxRecDepth 20000 in
theorem c_Mo_canCome (Z : ZX) {N : Nat} {σ : Mem} {a1 : Int32} {r : Int32} (h : f_Mo_canCome N σ a1 = some r) : CI Z 2 m_Mo_canCome [rf Z 65, .int a1] σ r σ := by
  refine Ct.of (by decide +kernel) (Nat.le_of_ble_eq_true rfl) (fun Y => ?_)
  show V (mkB Z) Y m_Mo_canCome 2 (QP (mkB Z) Y nC 0 0 (fun v t => v = some (.int r) ∧ t = σ)) 0 0 nC σ 0 [(0, rf Z 65), (1, .int a1)] []
  unfold f_Mo_canCome at h
  refine V.iconst (v := 0) d_Mo_canCome_0 (by decide) ?_
  refine V.istore_n (lv' := [(2, .int 0), (0, rf Z 65), (1, .int a1)]) d_Mo_canCome_1 rfl (by decide) rfl ?_
  refine V.pick [1, 2, 0] rfl (cL_Mo_canCome_l2 Z (Good := fun z => z = _) (fun r2v he => ?_) N _ _ h rfl)
  · cases he
    exact ⟨rfl, rfl⟩
