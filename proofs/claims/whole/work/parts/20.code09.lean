abbrev m_Ma_wantedBy : MI := (⟨"ShadeTown$Market", "wantedBy", "(I)I"⟩, prog_6_method_20_code, 3, (Option.some Jvm.ClassFile.FieldType.int))
theorem d_Ma_wantedBy_0 : decode prog_6_method_20_code 0 = .ok (.aload_n 0, 1) := by decide +kernel
theorem d_Ma_wantedBy_1 : decode prog_6_method_20_code 1 = .ok (.iload_n 1, 1) := by decide +kernel
theorem d_Ma_wantedBy_2 : decode prog_6_method_20_code 2 = .ok (.invokevirtual 48, 3) := by decide +kernel
theorem d_Ma_wantedBy_10 : decode prog_6_method_20_code 10 = .ok (.aload_n 0, 1) := by decide +kernel
theorem d_Ma_wantedBy_11 : decode prog_6_method_20_code 11 = .ok (.getfield 44, 3) := by decide +kernel
theorem d_Ma_wantedBy_14 : decode prog_6_method_20_code 14 = .ok (.iconst 4, 1) := by decide +kernel
theorem d_Ma_wantedBy_15 : decode prog_6_method_20_code 15 = .ok (.bipush 7, 2) := by decide +kernel
theorem d_Ma_wantedBy_17 : decode prog_6_method_20_code 17 = .ok (.iload_n 1, 1) := by decide +kernel
theorem d_Ma_wantedBy_18 : decode prog_6_method_20_code 18 = .ok (.isub, 1) := by decide +kernel
theorem d_Ma_wantedBy_19 : decode prog_6_method_20_code 19 = .ok (.imul, 1) := by decide +kernel
theorem d_Ma_wantedBy_20 : decode prog_6_method_20_code 20 = .ok (.lshr, 1) := by decide +kernel
theorem d_Ma_wantedBy_21 : decode prog_6_method_20_code 21 = .ok (.l2i, 1) := by decide +kernel
theorem d_Ma_wantedBy_22 : decode prog_6_method_20_code 22 = .ok (.bipush 15, 2) := by decide +kernel
theorem d_Ma_wantedBy_24 : decode prog_6_method_20_code 24 = .ok (.iand, 1) := by decide +kernel
theorem d_Ma_wantedBy_25 : decode prog_6_method_20_code 25 = .ok (.istore_n 2, 1) := by decide +kernel
theorem d_Ma_wantedBy_26 : decode prog_6_method_20_code 26 = .ok (.iload_n 2, 1) := by decide +kernel
theorem d_Ma_wantedBy_27 : decode prog_6_method_20_code 27 = .ok (.iconst 1, 1) := by decide +kernel
theorem d_Ma_wantedBy_49 : decode prog_6_method_20_code 49 = .ok (.iconst (-1), 1) := by decide +kernel
theorem d_Ma_wantedBy_50 : decode prog_6_method_20_code 50 = .ok (.ireturn, 1) := by decide +kernel
theorem d_Ma_wantedBy_31 : decode prog_6_method_20_code 31 = .ok (.iload_n 2, 1) := by decide +kernel
theorem d_Ma_wantedBy_32 : decode prog_6_method_20_code 32 = .ok (.bipush 8, 2) := by decide +kernel
theorem d_Ma_wantedBy_37 : decode prog_6_method_20_code 37 = .ok (.iload_n 1, 1) := by decide +kernel
theorem d_Ma_wantedBy_38 : decode prog_6_method_20_code 38 = .ok (.bipush 8, 2) := by decide +kernel
theorem d_Ma_wantedBy_40 : decode prog_6_method_20_code 40 = .ok (.imul, 1) := by decide +kernel
theorem d_Ma_wantedBy_41 : decode prog_6_method_20_code 41 = .ok (.bipush 8, 2) := by decide +kernel
theorem d_Ma_wantedBy_43 : decode prog_6_method_20_code 43 = .ok (.iadd, 1) := by decide +kernel
theorem d_Ma_wantedBy_44 : decode prog_6_method_20_code 44 = .ok (.iload_n 2, 1) := by decide +kernel
theorem d_Ma_wantedBy_45 : decode prog_6_method_20_code 45 = .ok (.isub, 1) := by decide +kernel
theorem d_Ma_wantedBy_46 : decode prog_6_method_20_code 46 = .ok (.goto 4, 3) := by decide +kernel
theorem d_Ma_wantedBy_34 : decode prog_6_method_20_code 34 = .ok (.if_icmp .gt 15, 3) := by decide +kernel
theorem d_Ma_wantedBy_28 : decode prog_6_method_20_code 28 = .ok (.if_icmp .lt 21, 3) := by decide +kernel
theorem d_Ma_wantedBy_8 : decode prog_6_method_20_code 8 = .ok (.iconst (-1), 1) := by decide +kernel
theorem d_Ma_wantedBy_9 : decode prog_6_method_20_code 9 = .ok (.ireturn, 1) := by decide +kernel
theorem d_Ma_wantedBy_5 : decode prog_6_method_20_code 5 = .ok (.ifCond .ne 5, 3) := by decide +kernel
def f_Ma_wantedBy (σ : Mem) (a1 : Int32) : Option (Int32) :=
  bnd1 (f_Ma_isNumber a1) fun r2 =>
  if r2 = 0 then
    (some (-1))
  else
    (letv ((((mL σ 47 10) >>> ((4 * (7 - a1)).toInt64 &&& 63)).toInt32) &&& 15) fun v25 =>
    if v25 < 1 then
      (some (-1))
    else
      (if 8 < v25 then
        (some (-1))
      else
        (some (((a1 * 8) + 8) - v25))))
set_option maxHeartbeats 4000000 in
set_option maxRecDepth 20000 in
theorem c_Ma_wantedBy (Z : ZX) {σ : Mem} {a1 : Int32} {r : Int32} (h : f_Ma_wantedBy σ a1 = some r) : CI Z 1 m_Ma_wantedBy [rf Z 47, .int a1] σ r σ := by
  refine Ct.of (by decide +kernel) (Nat.le_of_ble_eq_true rfl) (fun Y => ?_)
  show V (mkB Z) Y m_Ma_wantedBy 1 (QP (mkB Z) Y nC 0 0 (fun v t => v = some (.int r) ∧ t = σ)) 0 0 nC σ 0 [(0, rf Z 47), (1, .int a1)] []
  unfold f_Ma_wantedBy at h
  refine V.aload_n d_Ma_wantedBy_0 rfl 0 rfl ?_
  refine V.iload_n d_Ma_wantedBy_1 rfl 1 rfl ?_
  obtain ⟨r2, h1, h⟩ := bnd1_e h
  refine V.vI (as := [.int a1]) (st := []) (c_Ma_isNumber Z h1) k_Ma_isNumber lk_Ma_48 (by decide) rfl (by decide) ly_47 ok_Ma.1 rfl (Nat.le_of_ble_eq_true rfl) d_Ma_wantedBy_2 ?_
  refine V.if_ne (tgt := 10) d_Ma_wantedBy_5 (by decide) (fun hc5 => ?_) (fun hc5 => ?_)
  · replace h := ite_f hc5 h
    refine V.aload_n d_Ma_wantedBy_10 rfl 0 rfl ?_
    refine V.getL ok_Ma fl_Ma_44 (by decide) (by decide) ly_47 rfl d_Ma_wantedBy_11 ?_
    refine V.iconst (v := 4) d_Ma_wantedBy_14 (by decide) ?_
    refine V.bipush (v := 7) d_Ma_wantedBy_15 (by decide) ?_
    refine V.iload_n d_Ma_wantedBy_17 rfl 1 rfl ?_
    refine V.isub d_Ma_wantedBy_18 ?_
    refine V.imul d_Ma_wantedBy_19 ?_
    refine V.lshr d_Ma_wantedBy_20 ?_
    refine V.l2i d_Ma_wantedBy_21 ?_
    refine V.bipush (v := 15) d_Ma_wantedBy_22 (by decide) ?_
    refine V.iand d_Ma_wantedBy_24 ?_
    obtain ⟨v25, e_v25, h⟩ := letv_e h
    refine V.topI e_v25 ?_
    refine V.istore_n (lv' := [(2, .int v25), (0, rf Z 47), (1, .int a1)]) d_Ma_wantedBy_25 rfl (by decide) rfl ?_
    refine V.iload_n d_Ma_wantedBy_26 rfl 0 rfl ?_
    refine V.iconst (v := 1) d_Ma_wantedBy_27 (by decide) ?_
    refine V.icmp_lt (tgt := 49) d_Ma_wantedBy_28 (by decide) (fun hc28 => ?_) (fun hc28 => ?_)
    · replace h := ite_t hc28 h
      refine V.iconst (v := (-1)) d_Ma_wantedBy_49 (by decide) ?_
      cases h
      exact V.iret rfl d_Ma_wantedBy_50 ⟨rfl, rfl⟩
    · replace h := ite_f hc28 h
      refine V.iload_n d_Ma_wantedBy_31 rfl 0 rfl ?_
      refine V.bipush (v := 8) d_Ma_wantedBy_32 (by decide) ?_
      refine V.icmp_gt (tgt := 49) d_Ma_wantedBy_34 (by decide) (fun hc34 => ?_) (fun hc34 => ?_)
      · replace h := ite_t hc34 h
        refine V.iconst (v := (-1)) d_Ma_wantedBy_49 (by decide) ?_
        cases h
        exact V.iret rfl d_Ma_wantedBy_50 ⟨rfl, rfl⟩
      · replace h := ite_f hc34 h
        refine V.iload_n d_Ma_wantedBy_37 rfl 2 rfl ?_
        refine V.bipush (v := 8) d_Ma_wantedBy_38 (by decide) ?_
        refine V.imul d_Ma_wantedBy_40 ?_
        refine V.bipush (v := 8) d_Ma_wantedBy_41 (by decide) ?_
        refine V.iadd d_Ma_wantedBy_43 ?_
        refine V.iload_n d_Ma_wantedBy_44 rfl 0 rfl ?_
        refine V.isub d_Ma_wantedBy_45 ?_
        refine V.goto (tgt := 50) d_Ma_wantedBy_46 (by decide) ?_
        cases h
        exact V.iret rfl d_Ma_wantedBy_50 ⟨rfl, rfl⟩
  · replace h := ite_t hc5 h
    refine V.iconst (v := (-1)) d_Ma_wantedBy_8 (by decide) ?_
    cases h
    exact V.iret rfl d_Ma_wantedBy_9 ⟨rfl, rfl⟩
abbrev m_Ma_squareOf : MI := (⟨"ShadeTown$Market", "squareOf", "(I)I"⟩, prog_6_method_10_code, 3, (Option.some Jvm.ClassFile.FieldType.int))
theorem d_Ma_squareOf_0 : decode prog_6_method_10_code 0 = .ok (.aload_n 0, 1) := by decide +kernel
theorem d_Ma_squareOf_1 : decode prog_6_method_10_code 1 = .ok (.iload_n 1, 1) := by decide +kernel
theorem d_Ma_squareOf_2 : decode prog_6_method_10_code 2 = .ok (.invokevirtual 91, 3) := by decide +kernel
theorem k_Ma_wantedBy : MOk m_Ma_wantedBy 1 ∧ IOk m_Ma_wantedBy := ⟨⟨atG 1094 (by decide +kernel) rfl, atG 119 (by decide +kernel) rfl, ⟨by decide, by decide⟩, by decide +kernel, by decide⟩, atG 1093 (by decide +kernel) rfl, atG 33 (by decide +kernel) rfl⟩
theorem lk_Ma_91 : Cond.methodLink "ShadeTown$Market" 91 ⟨"ShadeTown$Market", "wantedBy", "(I)I"⟩ ∈ tblG := atG 1091 (by decide +kernel) rfl
theorem d_Ma_squareOf_5 : decode prog_6_method_10_code 5 = .ok (.istore_n 2, 1) := by decide +kernel
theorem d_Ma_squareOf_6 : decode prog_6_method_10_code 6 = .ok (.iload_n 2, 1) := by decide +kernel
theorem d_Ma_squareOf_7 : decode prog_6_method_10_code 7 = .ok (.iconst (-1), 1) := by decide +kernel
theorem d_Ma_squareOf_17 : decode prog_6_method_10_code 17 = .ok (.aload_n 0, 1) := by decide +kernel
theorem d_Ma_squareOf_18 : decode prog_6_method_10_code 18 = .ok (.getfield 19, 3) := by decide +kernel
theorem d_Ma_squareOf_21 : decode prog_6_method_10_code 21 = .ok (.iload_n 2, 1) := by decide +kernel
theorem d_Ma_squareOf_22 : decode prog_6_method_10_code 22 = .ok (.iaload, 1) := by decide +kernel
theorem d_Ma_squareOf_23 : decode prog_6_method_10_code 23 = .ok (.ireturn, 1) := by decide +kernel
theorem d_Ma_squareOf_11 : decode prog_6_method_10_code 11 = .ok (.sipush 144, 3) := by decide +kernel
theorem d_Ma_squareOf_14 : decode prog_6_method_10_code 14 = .ok (.goto 9, 3) := by decide +kernel
theorem d_Ma_squareOf_8 : decode prog_6_method_10_code 8 = .ok (.if_icmp .ne 9, 3) := by decide +kernel
def f_Ma_squareOf (σ : Mem) (a1 : Int32) : Option (Int32) :=
  bnd1 (f_Ma_wantedBy σ a1) fun r2 =>
  if r2 = (-1) then
    (some 144)
  else
    (grd (inb r2 64) <|
    some (mI σ 49 (r2.toNatClampNeg)))
set_option maxHeartbeats 4000000 in
set_option maxRecDepth 20000 in
theorem c_Ma_squareOf (Z : ZX) {σ : Mem} {a1 : Int32} {r : Int32} (h : f_Ma_squareOf σ a1 = some r) : CI Z 2 m_Ma_squareOf [rf Z 47, .int a1] σ r σ := by
  refine Ct.of (by decide +kernel) (Nat.le_of_ble_eq_true rfl) (fun Y => ?_)
  show V (mkB Z) Y m_Ma_squareOf 2 (QP (mkB Z) Y nC 0 0 (fun v t => v = some (.int r) ∧ t = σ)) 0 0 nC σ 0 [(0, rf Z 47), (1, .int a1)] []
  unfold f_Ma_squareOf at h
  refine V.aload_n d_Ma_squareOf_0 rfl 0 rfl ?_
  refine V.iload_n d_Ma_squareOf_1 rfl 1 rfl ?_
  obtain ⟨r2, h1, h⟩ := bnd1_e h
  refine V.vI (as := [.int a1]) (st := []) (c_Ma_wantedBy Z h1) k_Ma_wantedBy lk_Ma_91 (by decide) rfl (by decide) ly_47 ok_Ma.1 rfl (Nat.le_of_ble_eq_true rfl) d_Ma_squareOf_2 ?_
  refine V.istore_n (lv' := [(2, .int r2), (0, rf Z 47), (1, .int a1)]) d_Ma_squareOf_5 rfl (by decide) rfl ?_
  refine V.iload_n d_Ma_squareOf_6 rfl 0 rfl ?_
  refine V.iconst (v := (-1)) d_Ma_squareOf_7 (by decide) ?_
  refine V.icmp_ne (tgt := 17) d_Ma_squareOf_8 (by decide) (fun hc8 => ?_) (fun hc8 => ?_)
  · replace h := ite_f hc8 h
    refine V.aload_n d_Ma_squareOf_17 rfl 1 rfl ?_
    refine V.getR (r := 49) ok_Ma fl_Ma_19 (by decide) (by decide) ly_47 rfl d_Ma_squareOf_18 ?_
    refine V.iload_n d_Ma_squareOf_21 rfl 0 rfl ?_
    obtain ⟨gq, h⟩ := grd_e h
    refine V.ra (by decide) ly_49 (inb_e gq) rfl d_Ma_squareOf_22 ?_
    cases h
    exact V.iret rfl d_Ma_squareOf_23 ⟨rfl, rfl⟩
  · replace h := ite_t hc8 h
    refine V.sipush (v := 144) d_Ma_squareOf_11 (by decide) ?_
    refine V.goto (tgt := 23) d_Ma_squareOf_14 (by decide) ?_
    cases h
    exact V.iret rfl d_Ma_squareOf_23 ⟨rfl, rfl⟩
abbrev m_Ma_together : MI := (⟨"ShadeTown$Market", "together", "()I"⟩, prog_6_method_9_code, 1, (Option.some Jvm.ClassFile.FieldType.int))
theorem d_Ma_together_0 : decode prog_6_method_9_code 0 = .ok (.aload_n 0, 1) := by decide +kernel
theorem d_Ma_together_1 : decode prog_6_method_9_code 1 = .ok (.getfield 44, 3) := by decide +kernel
theorem d_Ma_together_4 : decode prog_6_method_9_code 4 = .ok (.bipush 32, 2) := by decide +kernel
theorem d_Ma_together_6 : decode prog_6_method_9_code 6 = .ok (.lshr, 1) := by decide +kernel
theorem d_Ma_together_7 : decode prog_6_method_9_code 7 = .ok (.l2i, 1) := by decide +kernel
theorem d_Ma_together_8 : decode prog_6_method_9_code 8 = .ok (.ireturn, 1) := by decide +kernel
def f_Ma_together (σ : Mem) : Option (Int32) :=
  some (((mL σ 47 10) >>> ((32 : Int32).toInt64 &&& 63)).toInt32)
set_option maxHeartbeats 4000000 in
set_option maxRecDepth 20000 in
theorem c_Ma_together (Z : ZX) {σ : Mem} {r : Int32} (h : f_Ma_together σ = some r) : CI Z 0 m_Ma_together [rf Z 47] σ r σ := by
  refine Ct.of (by decide +kernel) (Nat.le_of_ble_eq_true rfl) (fun Y => ?_)
  show V (mkB Z) Y m_Ma_together 0 (QP (mkB Z) Y nC 0 0 (fun v t => v = some (.int r) ∧ t = σ)) 0 0 nC σ 0 [(0, rf Z 47)] []
  unfold f_Ma_together at h
  refine V.aload_n d_Ma_together_0 rfl 0 rfl ?_
  refine V.getL ok_Ma fl_Ma_44 (by decide) (by decide) ly_47 rfl d_Ma_together_1 ?_
  refine V.bipush (v := 32) d_Ma_together_4 (by decide) ?_
  refine V.lshr d_Ma_together_6 ?_
  refine V.l2i d_Ma_together_7 ?_
  cases h
  exact V.iret rfl d_Ma_together_8 ⟨rfl, rfl⟩
abbrev m_Ma_pays : MI := (⟨"ShadeTown$Market", "pays", "(I)I"⟩, prog_6_method_11_code, 5, (Option.some Jvm.ClassFile.FieldType.int))
theorem d_Ma_pays_0 : decode prog_6_method_11_code 0 = .ok (.aload_n 0, 1) := by decide +kernel
theorem d_Ma_pays_1 : decode prog_6_method_11_code 1 = .ok (.iload_n 1, 1) := by decide +kernel
theorem d_Ma_pays_2 : decode prog_6_method_11_code 2 = .ok (.invokevirtual 91, 3) := by decide +kernel
theorem d_Ma_pays_5 : decode prog_6_method_11_code 5 = .ok (.istore_n 2, 1) := by decide +kernel
theorem d_Ma_pays_6 : decode prog_6_method_11_code 6 = .ok (.iload_n 2, 1) := by decide +kernel
theorem d_Ma_pays_7 : decode prog_6_method_11_code 7 = .ok (.iconst (-1), 1) := by decide +kernel
theorem d_Ma_pays_15 : decode prog_6_method_11_code 15 = .ok (.aload_n 0, 1) := by decide +kernel
theorem d_Ma_pays_16 : decode prog_6_method_11_code 16 = .ok (.getfield 22, 3) := by decide +kernel
theorem d_Ma_pays_19 : decode prog_6_method_11_code 19 = .ok (.iload_n 2, 1) := by decide +kernel
theorem d_Ma_pays_20 : decode prog_6_method_11_code 20 = .ok (.iaload, 1) := by decide +kernel
theorem d_Ma_pays_11 : decode prog_6_method_11_code 11 = .ok (.iconst 0, 1) := by decide +kernel
theorem d_Ma_pays_12 : decode prog_6_method_11_code 12 = .ok (.goto 9, 3) := by decide +kernel
theorem d_Ma_pays_8 : decode prog_6_method_11_code 8 = .ok (.if_icmp .ne 7, 3) := by decide +kernel
theorem d_Ma_pays_21 : decode prog_6_method_11_code 21 = .ok (.istore_n 3, 1) := by decide +kernel
theorem d_Ma_pays_22 : decode prog_6_method_11_code 22 = .ok (.aload_n 0, 1) := by decide +kernel
theorem d_Ma_pays_23 : decode prog_6_method_11_code 23 = .ok (.aload_n 0, 1) := by decide +kernel
theorem d_Ma_pays_24 : decode prog_6_method_11_code 24 = .ok (.getfield 41, 3) := by decide +kernel
theorem d_Ma_pays_27 : decode prog_6_method_11_code 27 = .ok (.iconst 1, 1) := by decide +kernel
theorem d_Ma_pays_28 : decode prog_6_method_11_code 28 = .ok (.iload_n 1, 1) := by decide +kernel
theorem d_Ma_pays_29 : decode prog_6_method_11_code 29 = .ok (.ishl, 1) := by decide +kernel
theorem d_Ma_pays_30 : decode prog_6_method_11_code 30 = .ok (.iconst (-1), 1) := by decide +kernel
theorem d_Ma_pays_31 : decode prog_6_method_11_code 31 = .ok (.ixor, 1) := by decide +kernel
theorem d_Ma_pays_32 : decode prog_6_method_11_code 32 = .ok (.iand, 1) := by decide +kernel
theorem d_Ma_pays_33 : decode prog_6_method_11_code 33 = .ok (.invokevirtual 87, 3) := by decide +kernel
theorem d_Ma_pays_36 : decode prog_6_method_11_code 36 = .ok (.bipush 32, 2) := by decide +kernel
theorem d_Ma_pays_38 : decode prog_6_method_11_code 38 = .ok (.lshr, 1) := by decide +kernel
theorem d_Ma_pays_39 : decode prog_6_method_11_code 39 = .ok (.l2i, 1) := by decide +kernel
theorem d_Ma_pays_40 : decode prog_6_method_11_code 40 = .ok (.istore 4, 2) := by decide +kernel
theorem d_Ma_pays_42 : decode prog_6_method_11_code 42 = .ok (.iload 4, 2) := by decide +kernel
theorem d_Ma_pays_44 : decode prog_6_method_11_code 44 = .ok (.aload_n 0, 1) := by decide +kernel
theorem d_Ma_pays_45 : decode prog_6_method_11_code 45 = .ok (.invokevirtual 94, 3) := by decide +kernel
theorem k_Ma_together : MOk m_Ma_together 0 ∧ IOk m_Ma_together := ⟨⟨atG 1086 (by decide +kernel) rfl, atG 119 (by decide +kernel) rfl, ⟨by decide, by decide⟩, by decide +kernel, by decide⟩, atG 1084 (by decide +kernel) rfl, atG 1085 (by decide +kernel) rfl⟩
theorem lk_Ma_94 : Cond.methodLink "ShadeTown$Market" 94 ⟨"ShadeTown$Market", "together", "()I"⟩ ∈ tblG := atG 1095 (by decide +kernel) rfl
theorem d_Ma_pays_48 : decode prog_6_method_11_code 48 = .ok (.iload_n 3, 1) := by decide +kernel
theorem d_Ma_pays_49 : decode prog_6_method_11_code 49 = .ok (.isub, 1) := by decide +kernel
theorem d_Ma_pays_50 : decode prog_6_method_11_code 50 = .ok (.isub, 1) := by decide +kernel
theorem d_Ma_pays_51 : decode prog_6_method_11_code 51 = .ok (.ireturn, 1) := by decide +kernel
def f_Ma_pays (N : Nat) (σ : Mem) (a1 : Int32) : Option (Int32) :=
  bnd1 (f_Ma_wantedBy σ a1) fun r2 =>
  bnd1 ((
    if r2 = (-1) then
      (some 0)
    else
      (grd (inb r2 64) <|
      some (mI σ 50 (r2.toNatClampNeg)))) : Option (Int32)) fun y8_s0 =>
  bnd1 (f_Ma_bestOf N σ ((mI σ 47 9) &&& ((1 <<< (a1 &&& 31)) ^^^ (-1)))) fun r33 =>
  letv ((r33 >>> ((32 : Int32).toInt64 &&& 63)).toInt32) fun v40 =>
  bnd1 (f_Ma_together σ) fun r45 =>
  some (v40 - (r45 - y8_s0))
set_option maxHeartbeats 4000000 in
set_option maxRecDepth 20000 in
theorem c_Ma_pays (Z : ZX) {N : Nat} {σ : Mem} {a1 : Int32} {r : Int32} (h : f_Ma_pays N σ a1 = some r) : CI Z 2 m_Ma_pays [rf Z 47, .int a1] σ r σ := by
  refine Ct.of (by decide +kernel) (Nat.le_of_ble_eq_true rfl) (fun Y => ?_)
  show V (mkB Z) Y m_Ma_pays 2 (QP (mkB Z) Y nC 0 0 (fun v t => v = some (.int r) ∧ t = σ)) 0 0 nC σ 0 [(0, rf Z 47), (1, .int a1)] []
  unfold f_Ma_pays at h
  refine V.aload_n d_Ma_pays_0 rfl 0 rfl ?_
  refine V.iload_n d_Ma_pays_1 rfl 1 rfl ?_
  obtain ⟨r2, h1, h⟩ := bnd1_e h
  refine V.vI (as := [.int a1]) (st := []) (c_Ma_wantedBy Z h1) k_Ma_wantedBy lk_Ma_91 (by decide) rfl (by decide) ly_47 ok_Ma.1 rfl (Nat.le_of_ble_eq_true rfl) d_Ma_pays_2 ?_
  refine V.istore_n (lv' := [(2, .int r2), (0, rf Z 47), (1, .int a1)]) d_Ma_pays_5 rfl (by decide) rfl ?_
  refine V.iload_n d_Ma_pays_6 rfl 0 rfl ?_
  refine V.iconst (v := (-1)) d_Ma_pays_7 (by decide) ?_
  obtain ⟨s8, h1, h⟩ := bnd1_e h
  have J8_21 : ∀ (y8_s0 : Int32), s8 = y8_s0 → V (mkB Z) Y m_Ma_pays 2 (QP (mkB Z) Y nC 0 0 (fun v t => v = some (.int r) ∧ t = σ)) 0 0 nC σ 21 [(0, rf Z 47), (1, .int a1)] [.int y8_s0] := by
    intro y8_s0 he
    rw [he] at h
    refine V.istore_n (lv' := [(3, .int y8_s0), (0, rf Z 47), (1, .int a1)]) d_Ma_pays_21 rfl (by decide) rfl ?_
    refine V.aload_n d_Ma_pays_22 rfl 1 rfl ?_
    refine V.aload_n d_Ma_pays_23 rfl 1 rfl ?_
    refine V.getI ok_Ma fl_Ma_41 (by decide) (by decide) ly_47 rfl d_Ma_pays_24 ?_
    refine V.iconst (v := 1) d_Ma_pays_27 (by decide) ?_
    refine V.iload_n d_Ma_pays_28 rfl 2 rfl ?_
    refine V.ishl d_Ma_pays_29 ?_
    refine V.iconst (v := (-1)) d_Ma_pays_30 (by decide) ?_
    refine V.ixor d_Ma_pays_31 ?_
    refine V.iand d_Ma_pays_32 ?_
    obtain ⟨r33, h1, h⟩ := bnd1_e h
    refine V.vJ (as := [.int ((mI σ 47 9) &&& ((1 <<< (a1 &&& 31)) ^^^ (-1)))]) (st := []) (c_Ma_bestOf Z h1) k_Ma_bestOf lk_Ma_87 (by decide) rfl (by decide) ly_47 ok_Ma.1 rfl (Nat.le_of_ble_eq_true rfl) d_Ma_pays_33 ?_
    refine V.bipush (v := 32) d_Ma_pays_36 (by decide) ?_
    refine V.lshr d_Ma_pays_38 ?_
    refine V.l2i d_Ma_pays_39 ?_
    obtain ⟨v40, e_v40, h⟩ := letv_e h
    refine V.topI e_v40 ?_
    refine V.istore (lv' := [(4, .int v40), (3, .int y8_s0), (0, rf Z 47), (1, .int a1)]) d_Ma_pays_40 (by decide) rfl ?_
    refine V.iload d_Ma_pays_42 0 rfl ?_
    refine V.aload_n d_Ma_pays_44 rfl 2 rfl ?_
    obtain ⟨r45, h1, h⟩ := bnd1_e h
    refine V.vI (as := []) (st := [.int v40]) (c_Ma_together Z h1) k_Ma_together lk_Ma_94 (by decide) rfl (by decide) ly_47 ok_Ma.1 rfl (Nat.le_of_ble_eq_true rfl) d_Ma_pays_45 ?_
    refine V.iload_n d_Ma_pays_48 rfl 1 rfl ?_
    refine V.isub d_Ma_pays_49 ?_
    refine V.isub d_Ma_pays_50 ?_
    cases h
    exact V.iret rfl d_Ma_pays_51 ⟨rfl, rfl⟩
  replace h := h1
  refine V.icmp_ne (tgt := 15) d_Ma_pays_8 (by decide) (fun hc8 => ?_) (fun hc8 => ?_)
  · replace h := ite_f hc8 h
    refine V.aload_n d_Ma_pays_15 rfl 1 rfl ?_
    refine V.getR (r := 50) ok_Ma fl_Ma_22 (by decide) (by decide) ly_47 rfl d_Ma_pays_16 ?_
    refine V.iload_n d_Ma_pays_19 rfl 0 rfl ?_
    obtain ⟨gq, h⟩ := grd_e h
    refine V.ra (by decide) ly_50 (inb_e gq) rfl d_Ma_pays_20 ?_
    exact V.pick [1, 2] rfl (J8_21 _ (Option.some.inj h).symm)
  · replace h := ite_t hc8 h
    refine V.iconst (v := 0) d_Ma_pays_11 (by decide) ?_
    refine V.goto (tgt := 21) d_Ma_pays_12 (by decide) ?_
    exact V.pick [1, 2] rfl (J8_21 _ (Option.some.inj h).symm)
abbrev m_Sh_sale : MI := (⟨"ShadeTown", "sale", "(III)I"⟩, prog_1_method_21_code, 6, (Option.some Jvm.ClassFile.FieldType.int))
theorem d_Sh_sale_0 : decode prog_1_method_21_code 0 = .ok (.iload_n 3, 1) := by decide +kernel
theorem d_Sh_sale_1 : decode prog_1_method_21_code 1 = .ok (.bipush 10, 2) := by decide +kernel
theorem d_Sh_sale_13 : decode prog_1_method_21_code 13 = .ok (.iload_n 3, 1) := by decide +kernel
theorem d_Sh_sale_6 : decode prog_1_method_21_code 6 = .ok (.iload_n 3, 1) := by decide +kernel
theorem d_Sh_sale_7 : decode prog_1_method_21_code 7 = .ok (.bipush 10, 2) := by decide +kernel
theorem d_Sh_sale_9 : decode prog_1_method_21_code 9 = .ok (.isub, 1) := by decide +kernel
theorem d_Sh_sale_10 : decode prog_1_method_21_code 10 = .ok (.goto 4, 3) := by decide +kernel
theorem d_Sh_sale_3 : decode prog_1_method_21_code 3 = .ok (.if_icmp .lt 10, 3) := by decide +kernel
theorem d_Sh_sale_14 : decode prog_1_method_21_code 14 = .ok (.istore 4, 2) := by decide +kernel
theorem d_Sh_sale_16 : decode prog_1_method_21_code 16 = .ok (.aload_n 0, 1) := by decide +kernel
theorem d_Sh_sale_17 : decode prog_1_method_21_code 17 = .ok (.getfield 75, 3) := by decide +kernel
theorem d_Sh_sale_20 : decode prog_1_method_21_code 20 = .ok (.iload 4, 2) := by decide +kernel
theorem d_Sh_sale_22 : decode prog_1_method_21_code 22 = .ok (.invokevirtual 256, 3) := by decide +kernel
theorem d_Sh_sale_28 : decode prog_1_method_21_code 28 = .ok (.iload_n 2, 1) := by decide +kernel
theorem d_Sh_sale_29 : decode prog_1_method_21_code 29 = .ok (.iload 4, 2) := by decide +kernel
theorem d_Sh_sale_31 : decode prog_1_method_21_code 31 = .ok (.ishr, 1) := by decide +kernel
theorem d_Sh_sale_32 : decode prog_1_method_21_code 32 = .ok (.iconst 1, 1) := by decide +kernel
theorem d_Sh_sale_33 : decode prog_1_method_21_code 33 = .ok (.iand, 1) := by decide +kernel
theorem d_Sh_sale_34 : decode prog_1_method_21_code 34 = .ok (.iconst 1, 1) := by decide +kernel
theorem d_Sh_sale_35 : decode prog_1_method_21_code 35 = .ok (.if_icmp .ne 7, 3) := by decide +kernel
theorem d_Sh_sale_25 : decode prog_1_method_21_code 25 = .ok (.ifCond .eq 17, 3) := by decide +kernel
theorem d_Sh_sale_42 : decode prog_1_method_21_code 42 = .ok (.iconst 0, 1) := by decide +kernel
theorem d_Sh_sale_38 : decode prog_1_method_21_code 38 = .ok (.iconst 1, 1) := by decide +kernel
theorem d_Sh_sale_39 : decode prog_1_method_21_code 39 = .ok (.goto 4, 3) := by decide +kernel
theorem d_Sh_sale_43 : decode prog_1_method_21_code 43 = .ok (.istore 5, 2) := by decide +kernel
theorem d_Sh_sale_45 : decode prog_1_method_21_code 45 = .ok (.iload_n 1, 1) := by decide +kernel
theorem d_Sh_sale_46 : decode prog_1_method_21_code 46 = .ok (.invokestatic 178, 3) := by decide +kernel
theorem d_Sh_sale_52 : decode prog_1_method_21_code 52 = .ok (.iload_n 2, 1) := by decide +kernel
theorem d_Sh_sale_53 : decode prog_1_method_21_code 53 = .ok (.iconst 1, 1) := by decide +kernel
theorem d_Sh_sale_57 : decode prog_1_method_21_code 57 = .ok (.iload_n 2, 1) := by decide +kernel
theorem d_Sh_sale_58 : decode prog_1_method_21_code 58 = .ok (.sipush 255, 3) := by decide +kernel
theorem d_Sh_sale_64 : decode prog_1_method_21_code 64 = .ok (.iload_n 3, 1) := by decide +kernel
theorem d_Sh_sale_65 : decode prog_1_method_21_code 65 = .ok (.iconst (-1), 1) := by decide +kernel
theorem d_Sh_sale_69 : decode prog_1_method_21_code 69 = .ok (.iload 5, 2) := by decide +kernel
theorem d_Sh_sale_71 : decode prog_1_method_21_code 71 = .ok (.ifCond .ne 6, 3) := by decide +kernel
theorem d_Sh_sale_66 : decode prog_1_method_21_code 66 = .ok (.if_icmp .eq 11, 3) := by decide +kernel
theorem d_Sh_sale_61 : decode prog_1_method_21_code 61 = .ok (.if_icmp .gt 13, 3) := by decide +kernel
theorem d_Sh_sale_54 : decode prog_1_method_21_code 54 = .ok (.if_icmp .lt 20, 3) := by decide +kernel
theorem d_Sh_sale_49 : decode prog_1_method_21_code 49 = .ok (.ifCond .eq 25, 3) := by decide +kernel
theorem d_Sh_sale_74 : decode prog_1_method_21_code 74 = .ok (.bipush (-3), 2) := by decide +kernel
theorem d_Sh_sale_76 : decode prog_1_method_21_code 76 = .ok (.ireturn, 1) := by decide +kernel
theorem d_Sh_sale_77 : decode prog_1_method_21_code 77 = .ok (.aload_n 0, 1) := by decide +kernel
theorem d_Sh_sale_78 : decode prog_1_method_21_code 78 = .ok (.getfield 75, 3) := by decide +kernel
theorem d_Sh_sale_81 : decode prog_1_method_21_code 81 = .ok (.iload_n 2, 1) := by decide +kernel
theorem d_Sh_sale_82 : decode prog_1_method_21_code 82 = .ok (.invokevirtual 269, 3) := by decide +kernel
theorem k_Ma_areTold : MOk m_Ma_areTold 1 ∧ IOk m_Ma_areTold := ⟨⟨atG 1045 (by decide +kernel) rfl, atG 119 (by decide +kernel) rfl, ⟨by decide, by decide⟩, by decide +kernel, by decide⟩, atG 1043 (by decide +kernel) rfl, atG 1044 (by decide +kernel) rfl⟩
theorem lk_Sh_269 : Cond.methodLink "ShadeTown" 269 ⟨"ShadeTown$Market", "areTold", "(I)Z"⟩ ∈ tblG := atG 1042 (by decide +kernel) rfl
theorem d_Sh_sale_91 : decode prog_1_method_21_code 91 = .ok (.aload_n 0, 1) := by decide +kernel
theorem d_Sh_sale_92 : decode prog_1_method_21_code 92 = .ok (.getfield 75, 3) := by decide +kernel
theorem d_Sh_sale_95 : decode prog_1_method_21_code 95 = .ok (.aload_n 0, 1) := by decide +kernel
theorem d_Sh_sale_96 : decode prog_1_method_21_code 96 = .ok (.invokevirtual 181, 3) := by decide +kernel
theorem d_Sh_sale_99 : decode prog_1_method_21_code 99 = .ok (.iload_n 1, 1) := by decide +kernel
theorem d_Sh_sale_100 : decode prog_1_method_21_code 100 = .ok (.iload_n 2, 1) := by decide +kernel
theorem d_Sh_sale_101 : decode prog_1_method_21_code 101 = .ok (.invokevirtual 272, 3) := by decide +kernel
theorem k_Ma_sell : MOk m_Ma_sell 3 ∧ IOk m_Ma_sell := ⟨⟨atG 1049 (by decide +kernel) rfl, atG 119 (by decide +kernel) rfl, ⟨by decide, by decide⟩, by decide +kernel, by decide⟩, atG 1047 (by decide +kernel) rfl, atG 1048 (by decide +kernel) rfl⟩
theorem lk_Sh_272 : Cond.methodLink "ShadeTown" 272 ⟨"ShadeTown$Market", "sell", "(LShadeTown$Day;II)V"⟩ ∈ tblG := atG 1046 (by decide +kernel) rfl
theorem d_Sh_sale_104 : decode prog_1_method_21_code 104 = .ok (.iload_n 3, 1) := by decide +kernel
theorem d_Sh_sale_105 : decode prog_1_method_21_code 105 = .ok (.iconst (-1), 1) := by decide +kernel
theorem d_Sh_sale_117 : decode prog_1_method_21_code 117 = .ok (.iload_n 3, 1) := by decide +kernel
theorem d_Sh_sale_118 : decode prog_1_method_21_code 118 = .ok (.bipush 10, 2) := by decide +kernel
theorem d_Sh_sale_135 : decode prog_1_method_21_code 135 = .ok (.aload_n 0, 1) := by decide +kernel
theorem d_Sh_sale_136 : decode prog_1_method_21_code 136 = .ok (.getfield 75, 3) := by decide +kernel
theorem d_Sh_sale_139 : decode prog_1_method_21_code 139 = .ok (.iload 4, 2) := by decide +kernel
theorem d_Sh_sale_141 : decode prog_1_method_21_code 141 = .ok (.invokevirtual 282, 3) := by decide +kernel
theorem k_Ma_squareOf : MOk m_Ma_squareOf 1 ∧ IOk m_Ma_squareOf := ⟨⟨atG 1099 (by decide +kernel) rfl, atG 119 (by decide +kernel) rfl, ⟨by decide, by decide⟩, by decide +kernel, by decide⟩, atG 1097 (by decide +kernel) rfl, atG 1098 (by decide +kernel) rfl⟩
theorem lk_Sh_282 : Cond.methodLink "ShadeTown" 282 ⟨"ShadeTown$Market", "squareOf", "(I)I"⟩ ∈ tblG := atG 1096 (by decide +kernel) rfl
theorem d_Sh_sale_144 : decode prog_1_method_21_code 144 = .ok (.ireturn, 1) := by decide +kernel
theorem d_Sh_sale_123 : decode prog_1_method_21_code 123 = .ok (.aload_n 0, 1) := by decide +kernel
theorem d_Sh_sale_124 : decode prog_1_method_21_code 124 = .ok (.getfield 75, 3) := by decide +kernel
theorem d_Sh_sale_127 : decode prog_1_method_21_code 127 = .ok (.iload 4, 2) := by decide +kernel
theorem d_Sh_sale_129 : decode prog_1_method_21_code 129 = .ok (.invokevirtual 279, 3) := by decide +kernel
theorem k_Ma_pays : MOk m_Ma_pays 1 ∧ IOk m_Ma_pays := ⟨⟨atG 1090 (by decide +kernel) rfl, atG 119 (by decide +kernel) rfl, ⟨by decide, by decide⟩, by decide +kernel, by decide⟩, atG 1088 (by decide +kernel) rfl, atG 1089 (by decide +kernel) rfl⟩
theorem lk_Sh_279 : Cond.methodLink "ShadeTown" 279 ⟨"ShadeTown$Market", "pays", "(I)I"⟩ ∈ tblG := atG 1087 (by decide +kernel) rfl
theorem d_Sh_sale_132 : decode prog_1_method_21_code 132 = .ok (.goto 12, 3) := by decide +kernel
theorem d_Sh_sale_120 : decode prog_1_method_21_code 120 = .ok (.if_icmp .lt 15, 3) := by decide +kernel
theorem d_Sh_sale_109 : decode prog_1_method_21_code 109 = .ok (.aload_n 0, 1) := by decide +kernel
theorem d_Sh_sale_110 : decode prog_1_method_21_code 110 = .ok (.getfield 75, 3) := by decide +kernel
theorem d_Sh_sale_113 : decode prog_1_method_21_code 113 = .ok (.invokevirtual 276, 3) := by decide +kernel
theorem lk_Sh_276 : Cond.methodLink "ShadeTown" 276 ⟨"ShadeTown$Market", "together", "()I"⟩ ∈ tblG := atG 1083 (by decide +kernel) rfl
theorem d_Sh_sale_116 : decode prog_1_method_21_code 116 = .ok (.ireturn, 1) := by decide +kernel
theorem d_Sh_sale_106 : decode prog_1_method_21_code 106 = .ok (.if_icmp .ne 11, 3) := by decide +kernel
theorem d_Sh_sale_88 : decode prog_1_method_21_code 88 = .ok (.bipush (-2), 2) := by decide +kernel
theorem d_Sh_sale_90 : decode prog_1_method_21_code 90 = .ok (.ireturn, 1) := by decide +kernel
theorem d_Sh_sale_85 : decode prog_1_method_21_code 85 = .ok (.ifCond .ne 6, 3) := by decide +kernel
def f_Sh_sale (N : Nat) (σ : Mem) (a1 : Int32) (a2 : Int32) (a3 : Int32) : Option (Int32 × Mem) :=
  bnd1 ((
    if a3 < 10 then
      (some a3)
    else
      (some (a3 - 10))) : Option (Int32)) fun y3_s0 =>
  bnd1 (f_Ma_isNumber y3_s0) fun r22 =>
  bnd1 ((
    bnd1 ((
      if r22 = 0 then
        (some 0)
      else
        (if (a2 >>> (y3_s0 &&& 31)) &&& 1 = 1 then
          (some 1)
        else
          (some 0))) : Option (Nat)) fun t25b =>
    if t25b = 0 then
      (some 0)
    else
    (some 1)) : Option (Int32)) fun y25_s0 =>
  bnd1 (f_Sh_isHour a1) fun r46 =>
  bnd1 ((
    if r46 = 0 then
      (some 0)
    else
      (if a2 < 1 then
        (some 0)
      else
        (if 255 < a2 then
          (some 0)
        else
          (if a3 = (-1) then
            (some 1)
          else
            (if y25_s0 = 0 then
              (some 0)
            else
              (some 1)))))) : Option (Nat)) fun t49b =>
  if t49b = 0 then
    (some ((-3), σ))
  else
  (bnd1 (f_Ma_areTold σ a2) fun r82 =>
  if r82 = 0 then
    (some ((-2), σ))
  else
    (bnd1 (f_Sh_today N σ) fun σ96 =>
    bnd1 (f_Ma_sell N σ96 a1 a2) fun σ101 =>
    if a3 = (-1) then
      (bnd1 (f_Ma_together σ101) fun r113 =>
      some (r113, σ101))
    else
      (if a3 < 10 then
        (bnd1 (f_Ma_squareOf σ101 y3_s0) fun r141 =>
        some (r141, σ101))
      else
        (bnd1 (f_Ma_pays N σ101 y3_s0) fun r129 =>
        some (r129, σ101)))))
set_option maxHeartbeats 4000000 in
set_option maxRecDepth 20000 in
theorem c_Sh_sale (Z : ZX) {N : Nat} {σ : Mem} {a1 : Int32} {a2 : Int32} {a3 : Int32} {r : Int32} {σ' : Mem} (h : f_Sh_sale N σ a1 a2 a3 = some (r, σ')) : CI Z 7 m_Sh_sale [rf Z 0, .int a1, .int a2, .int a3] σ r σ' := by
  refine Ct.of (by decide +kernel) (Nat.le_of_ble_eq_true rfl) (fun Y => ?_)
  show V (mkB Z) Y m_Sh_sale 7 (QP (mkB Z) Y nC 0 0 (fun v t => v = some (.int r) ∧ t = σ')) 0 0 nC σ 0 [(0, rf Z 0), (1, .int a1), (2, .int a2), (3, .int a3)] []
  unfold f_Sh_sale at h
  refine V.iload_n d_Sh_sale_0 rfl 3 rfl ?_
  refine V.bipush (v := 10) d_Sh_sale_1 (by decide) ?_
  obtain ⟨s3, h1, h⟩ := bnd1_e h
  have J3_14 : ∀ (y3_s0 : Int32), s3 = y3_s0 → V (mkB Z) Y m_Sh_sale 7 (QP (mkB Z) Y nC 0 0 (fun v t => v = some (.int r) ∧ t = σ')) 0 0 nC σ 14 [(0, rf Z 0), (1, .int a1), (2, .int a2), (3, .int a3)] [.int y3_s0] := by
    intro y3_s0 he
    rw [he] at h
    refine V.istore (lv' := [(4, .int y3_s0), (0, rf Z 0), (1, .int a1), (2, .int a2), (3, .int a3)]) d_Sh_sale_14 (by decide) rfl ?_
    refine V.aload_n d_Sh_sale_16 rfl 1 rfl ?_
    refine V.getR (r := 47) ok_Sh fl_Sh_75 (by decide) (by decide) ly_0 rfl d_Sh_sale_17 ?_
    refine V.iload d_Sh_sale_20 0 rfl ?_
    obtain ⟨r22, h1, h⟩ := bnd1_e h
    refine V.vI (as := [.int y3_s0]) (st := []) (c_Ma_isNumber Z h1) k_Ma_isNumber lk_Sh_256 (by decide) rfl (by decide) ly_47 ok_Ma.1 rfl (Nat.le_of_ble_eq_true rfl) d_Sh_sale_22 ?_
    obtain ⟨s25, h1, h⟩ := bnd1_e h
    have J25_43 : ∀ (y25_s0 : Int32), s25 = y25_s0 → V (mkB Z) Y m_Sh_sale 7 (QP (mkB Z) Y nC 0 0 (fun v t => v = some (.int r) ∧ t = σ')) 0 0 nC σ 43 [(0, rf Z 0), (1, .int a1), (2, .int a2), (3, .int a3), (4, .int y3_s0)] [.int y25_s0] := by
      intro y25_s0 he
      rw [he] at h
      refine V.istore (lv' := [(5, .int y25_s0), (0, rf Z 0), (1, .int a1), (2, .int a2), (3, .int a3), (4, .int y3_s0)]) d_Sh_sale_43 (by decide) rfl ?_
      refine V.iload_n d_Sh_sale_45 rfl 2 rfl ?_
      obtain ⟨r46, h1, h⟩ := bnd1_e h
      refine V.sI (as := [.int a1]) (st := []) (c_Sh_isHour Z h1) k_Sh_isHour lk_Sh_178 (by decide) rfl rfl (Nat.le_of_ble_eq_true rfl) d_Sh_sale_46 ?_
      obtain ⟨s49b, h1, h⟩ := bnd1_e h
      have J49b_74 : s49b = 0 → V (mkB Z) Y m_Sh_sale 7 (QP (mkB Z) Y nC 0 0 (fun v t => v = some (.int r) ∧ t = σ')) 0 0 nC σ 74 [] [] := by
        intro he
        rw [he] at h
        replace h := ite_t rfl h
        refine V.bipush (v := (-3)) d_Sh_sale_74 (by decide) ?_
        cases h
        exact V.iret rfl d_Sh_sale_76 ⟨rfl, rfl⟩
      have J49b_77 : s49b = 1 → V (mkB Z) Y m_Sh_sale 7 (QP (mkB Z) Y nC 0 0 (fun v t => v = some (.int r) ∧ t = σ')) 0 0 nC σ 77 [(0, rf Z 0), (1, .int a1), (2, .int a2), (3, .int a3), (4, .int y3_s0)] [] := by
        intro he
        rw [he] at h
        replace h := ite_f (by decide) h
        refine V.aload_n d_Sh_sale_77 rfl 0 rfl ?_
        refine V.getR (r := 47) ok_Sh fl_Sh_75 (by decide) (by decide) ly_0 rfl d_Sh_sale_78 ?_
        refine V.iload_n d_Sh_sale_81 rfl 2 rfl ?_
        obtain ⟨r82, h1, h⟩ := bnd1_e h
        refine V.vI (as := [.int a2]) (st := []) (c_Ma_areTold Z h1) k_Ma_areTold lk_Sh_269 (by decide) rfl (by decide) ly_47 ok_Ma.1 rfl (Nat.le_of_ble_eq_true rfl) d_Sh_sale_82 ?_
        refine V.if_ne (tgt := 91) d_Sh_sale_85 (by decide) (fun hc85 => ?_) (fun hc85 => ?_)
        · replace h := ite_f hc85 h
          refine V.aload_n d_Sh_sale_91 rfl 0 rfl ?_
          refine V.getR (r := 47) ok_Sh fl_Sh_75 (by decide) (by decide) ly_0 rfl d_Sh_sale_92 ?_
          refine V.aload_n d_Sh_sale_95 rfl 0 rfl ?_
          obtain ⟨σ96, h1, h⟩ := bnd1_e h
          refine V.vA (as := []) (st := [rf Z 47]) (c_Sh_today Z h1) k_Sh_today lk_Sh_181 (by decide) rfl (by decide) ly_0 ok_Sh.1 rfl (Nat.le_of_ble_eq_true rfl) d_Sh_sale_96 ?_
          refine V.iload_n d_Sh_sale_99 rfl 1 rfl ?_
          refine V.iload_n d_Sh_sale_100 rfl 2 rfl ?_
          obtain ⟨σ101, h1, h⟩ := bnd1_e h
          refine V.vN (as := [rf Z 33, .int a1, .int a2]) (st := []) (c_Ma_sell Z h1) k_Ma_sell lk_Sh_272 (by decide) rfl (by decide) ly_47 ok_Ma.1 rfl (Nat.le_of_ble_eq_true rfl) d_Sh_sale_101 ?_
          refine V.iload_n d_Sh_sale_104 rfl 3 rfl ?_
          refine V.iconst (v := (-1)) d_Sh_sale_105 (by decide) ?_
          refine V.icmp_ne (tgt := 117) d_Sh_sale_106 (by decide) (fun hc106 => ?_) (fun hc106 => ?_)
          · replace h := ite_f hc106 h
            refine V.iload_n d_Sh_sale_117 rfl 3 rfl ?_
            refine V.bipush (v := 10) d_Sh_sale_118 (by decide) ?_
            refine V.icmp_lt (tgt := 135) d_Sh_sale_120 (by decide) (fun hc120 => ?_) (fun hc120 => ?_)
            · replace h := ite_t hc120 h
              refine V.aload_n d_Sh_sale_135 rfl 0 rfl ?_
              refine V.getR (r := 47) ok_Sh fl_Sh_75 (by decide) (by decide) ly_0 rfl d_Sh_sale_136 ?_
              refine V.iload d_Sh_sale_139 4 rfl ?_
              obtain ⟨r141, h1, h⟩ := bnd1_e h
              refine V.vI (as := [.int y3_s0]) (st := []) (c_Ma_squareOf Z h1) k_Ma_squareOf lk_Sh_282 (by decide) rfl (by decide) ly_47 ok_Ma.1 rfl (Nat.le_of_ble_eq_true rfl) d_Sh_sale_141 ?_
              cases h
              exact V.iret rfl d_Sh_sale_144 ⟨rfl, rfl⟩
            · replace h := ite_f hc120 h
              refine V.aload_n d_Sh_sale_123 rfl 0 rfl ?_
              refine V.getR (r := 47) ok_Sh fl_Sh_75 (by decide) (by decide) ly_0 rfl d_Sh_sale_124 ?_
              refine V.iload d_Sh_sale_127 4 rfl ?_
              obtain ⟨r129, h1, h⟩ := bnd1_e h
              refine V.vI (as := [.int y3_s0]) (st := []) (c_Ma_pays Z h1) k_Ma_pays lk_Sh_279 (by decide) rfl (by decide) ly_47 ok_Ma.1 rfl (Nat.le_of_ble_eq_true rfl) d_Sh_sale_129 ?_
              refine V.goto (tgt := 144) d_Sh_sale_132 (by decide) ?_
              cases h
              exact V.iret rfl d_Sh_sale_144 ⟨rfl, rfl⟩
          · replace h := ite_t hc106 h
            refine V.aload_n d_Sh_sale_109 rfl 0 rfl ?_
            refine V.getR (r := 47) ok_Sh fl_Sh_75 (by decide) (by decide) ly_0 rfl d_Sh_sale_110 ?_
            obtain ⟨r113, h1, h⟩ := bnd1_e h
            refine V.vI (as := []) (st := []) (c_Ma_together Z h1) k_Ma_together lk_Sh_276 (by decide) rfl (by decide) ly_47 ok_Ma.1 rfl (Nat.le_of_ble_eq_true rfl) d_Sh_sale_113 ?_
            cases h
            exact V.iret rfl d_Sh_sale_116 ⟨rfl, rfl⟩
        · replace h := ite_t hc85 h
          refine V.bipush (v := (-2)) d_Sh_sale_88 (by decide) ?_
          cases h
          exact V.iret rfl d_Sh_sale_90 ⟨rfl, rfl⟩
      replace h := h1
      refine V.if_eq (tgt := 74) d_Sh_sale_49 (by decide) (fun hc49 => ?_) (fun hc49 => ?_)
      · replace h := ite_t hc49 h
        exact V.pick [] rfl (J49b_74 (Option.some.inj h).symm)
      · replace h := ite_f hc49 h
        refine V.iload_n d_Sh_sale_52 rfl 3 rfl ?_
        refine V.iconst (v := 1) d_Sh_sale_53 (by decide) ?_
        refine V.icmp_lt (tgt := 74) d_Sh_sale_54 (by decide) (fun hc54 => ?_) (fun hc54 => ?_)
        · replace h := ite_t hc54 h
          exact V.pick [] rfl (J49b_74 (Option.some.inj h).symm)
        · replace h := ite_f hc54 h
          refine V.iload_n d_Sh_sale_57 rfl 3 rfl ?_
          refine V.sipush (v := 255) d_Sh_sale_58 (by decide) ?_
          refine V.icmp_gt (tgt := 74) d_Sh_sale_61 (by decide) (fun hc61 => ?_) (fun hc61 => ?_)
          · replace h := ite_t hc61 h
            exact V.pick [] rfl (J49b_74 (Option.some.inj h).symm)
          · replace h := ite_f hc61 h
            refine V.iload_n d_Sh_sale_64 rfl 4 rfl ?_
            refine V.iconst (v := (-1)) d_Sh_sale_65 (by decide) ?_
            refine V.icmp_eq (tgt := 77) d_Sh_sale_66 (by decide) (fun hc66 => ?_) (fun hc66 => ?_)
            · replace h := ite_t hc66 h
              exact V.pick [1, 2, 3, 4, 5] rfl (J49b_77 (Option.some.inj h).symm)
            · replace h := ite_f hc66 h
              refine V.iload d_Sh_sale_69 0 rfl ?_
              refine V.if_ne (tgt := 77) d_Sh_sale_71 (by decide) (fun hc71 => ?_) (fun hc71 => ?_)
              · replace h := ite_f hc71 h
                exact V.pick [1, 2, 3, 4, 5] rfl (J49b_77 (Option.some.inj h).symm)
              · replace h := ite_t hc71 h
                exact V.pick [] rfl (J49b_74 (Option.some.inj h).symm)
    replace h := h1
    obtain ⟨s25b, h1, h⟩ := bnd1_e h
    have J25b_42 : s25b = 0 → V (mkB Z) Y m_Sh_sale 7 (QP (mkB Z) Y nC 0 0 (fun v t => v = some (.int r) ∧ t = σ')) 0 0 nC σ 42 [(0, rf Z 0), (1, .int a1), (2, .int a2), (3, .int a3), (4, .int y3_s0)] [] := by
      intro he
      rw [he] at h
      replace h := ite_t rfl h
      refine V.iconst (v := 0) d_Sh_sale_42 (by decide) ?_
      exact V.pick [0, 1, 2, 3, 4] rfl (J25_43 _ (Option.some.inj h).symm)
    have J25b_38 : s25b = 1 → V (mkB Z) Y m_Sh_sale 7 (QP (mkB Z) Y nC 0 0 (fun v t => v = some (.int r) ∧ t = σ')) 0 0 nC σ 38 [(0, rf Z 0), (1, .int a1), (2, .int a2), (3, .int a3), (4, .int y3_s0)] [] := by
      intro he
      rw [he] at h
      replace h := ite_f (by decide) h
      refine V.iconst (v := 1) d_Sh_sale_38 (by decide) ?_
      refine V.goto (tgt := 43) d_Sh_sale_39 (by decide) ?_
      exact V.pick [0, 1, 2, 3, 4] rfl (J25_43 _ (Option.some.inj h).symm)
    replace h := h1
    refine V.if_eq (tgt := 42) d_Sh_sale_25 (by decide) (fun hc25 => ?_) (fun hc25 => ?_)
    · replace h := ite_t hc25 h
      exact V.pick [1, 2, 3, 4, 0] rfl (J25b_42 (Option.some.inj h).symm)
    · replace h := ite_f hc25 h
      refine V.iload_n d_Sh_sale_28 rfl 3 rfl ?_
      refine V.iload d_Sh_sale_29 0 rfl ?_
      refine V.ishr d_Sh_sale_31 ?_
      refine V.iconst (v := 1) d_Sh_sale_32 (by decide) ?_
      refine V.iand d_Sh_sale_33 ?_
      refine V.iconst (v := 1) d_Sh_sale_34 (by decide) ?_
      refine V.icmp_ne (tgt := 42) d_Sh_sale_35 (by decide) (fun hc35 => ?_) (fun hc35 => ?_)
      · replace h := ite_f hc35 h
        exact V.pick [1, 2, 3, 4, 0] rfl (J25b_42 (Option.some.inj h).symm)
      · replace h := ite_t hc35 h
        exact V.pick [1, 2, 3, 4, 0] rfl (J25b_38 (Option.some.inj h).symm)
  replace h := h1
  refine V.icmp_lt (tgt := 13) d_Sh_sale_3 (by decide) (fun hc3 => ?_) (fun hc3 => ?_)
  · replace h := ite_t hc3 h
    refine V.iload_n d_Sh_sale_13 rfl 3 rfl ?_
    exact V.pick [0, 1, 2, 3] rfl (J3_14 _ (Option.some.inj h).symm)
  · replace h := ite_f hc3 h
    refine V.iload_n d_Sh_sale_6 rfl 3 rfl ?_
    refine V.bipush (v := 10) d_Sh_sale_7 (by decide) ?_
    refine V.isub d_Sh_sale_9 ?_
    refine V.goto (tgt := 14) d_Sh_sale_10 (by decide) ?_
    exact V.pick [0, 1, 2, 3] rfl (J3_14 _ (Option.some.inj h).symm)
abbrev m_Wi_isNumber : MI := (⟨"ShadeTown$Wishes", "isNumber", "(I)Z"⟩, prog_11_method_2_code, 2, (Option.some Jvm.ClassFile.FieldType.boolean))
theorem d_Wi_isNumber_0 : decode prog_11_method_2_code 0 = .ok (.iload_n 1, 1) := by decide +kernel
theorem d_Wi_isNumber_14 : decode prog_11_method_2_code 14 = .ok (.iconst 0, 1) := by decide +kernel
theorem d_Wi_isNumber_15 : decode prog_11_method_2_code 15 = .ok (.ireturn, 1) := by decide +kernel
theorem d_Wi_isNumber_4 : decode prog_11_method_2_code 4 = .ok (.iload_n 1, 1) := by decide +kernel
theorem d_Wi_isNumber_5 : decode prog_11_method_2_code 5 = .ok (.bipush 16, 2) := by decide +kernel
theorem d_Wi_isNumber_10 : decode prog_11_method_2_code 10 = .ok (.iconst 1, 1) := by decide +kernel
theorem d_Wi_isNumber_11 : decode prog_11_method_2_code 11 = .ok (.goto 4, 3) := by decide +kernel
theorem d_Wi_isNumber_7 : decode prog_11_method_2_code 7 = .ok (.if_icmp .ge 7, 3) := by decide +kernel
theorem d_Wi_isNumber_1 : decode prog_11_method_2_code 1 = .ok (.ifCond .lt 13, 3) := by decide +kernel
def f_Wi_isNumber (a1 : Int32) : Option (Int32) :=
  if a1 < 0 then
    (some 0)
  else
    (if 16 ≤ a1 then
      (some 0)
    else
      (some 1))
set_option maxHeartbeats 4000000 in
set_option maxRecDepth 20000 in
theorem c_Wi_isNumber (Z : ZX) {σ : Mem} {a1 : Int32} {r : Int32} (h : f_Wi_isNumber a1 = some r) : CI Z 0 m_Wi_isNumber [rf Z 56, .int a1] σ r σ := by
  refine Ct.of (by decide +kernel) (Nat.le_of_ble_eq_true rfl) (fun Y => ?_)
  show V (mkB Z) Y m_Wi_isNumber 0 (QP (mkB Z) Y nC 0 0 (fun v t => v = some (.int r) ∧ t = σ)) 0 0 nC σ 0 [(0, rf Z 56), (1, .int a1)] []
  unfold f_Wi_isNumber at h
  refine V.iload_n d_Wi_isNumber_0 rfl 1 rfl ?_
  refine V.if_lt (tgt := 14) d_Wi_isNumber_1 (by decide) (fun hc1 => ?_) (fun hc1 => ?_)
  · replace h := ite_t hc1 h
    refine V.iconst (v := 0) d_Wi_isNumber_14 (by decide) ?_
    cases h
    exact V.zret rfl rfl d_Wi_isNumber_15 ⟨rfl, rfl⟩
  · replace h := ite_f hc1 h
    refine V.iload_n d_Wi_isNumber_4 rfl 1 rfl ?_
    refine V.bipush (v := 16) d_Wi_isNumber_5 (by decide) ?_
    refine V.icmp_ge (tgt := 14) d_Wi_isNumber_7 (by decide) (fun hc7 => ?_) (fun hc7 => ?_)
    · replace h := ite_t hc7 h
      refine V.iconst (v := 0) d_Wi_isNumber_14 (by decide) ?_
      cases h
      exact V.zret rfl rfl d_Wi_isNumber_15 ⟨rfl, rfl⟩
    · replace h := ite_f hc7 h
      refine V.iconst (v := 1) d_Wi_isNumber_10 (by decide) ?_
      refine V.goto (tgt := 15) d_Wi_isNumber_11 (by decide) ?_
      cases h
      exact V.zret rfl rfl d_Wi_isNumber_15 ⟨rfl, rfl⟩
abbrev m_Wi_tell : MI := (⟨"ShadeTown$Wishes", "tell", "(IIIIZI)V"⟩, prog_11_method_5_code, 7, (Option.none : Option Jvm.ClassFile.FieldType))
theorem d_Wi_tell_0 : decode prog_11_method_5_code 0 = .ok (.aload_n 0, 1) := by decide +kernel
theorem d_Wi_tell_1 : decode prog_11_method_5_code 1 = .ok (.iload_n 1, 1) := by decide +kernel
theorem d_Wi_tell_2 : decode prog_11_method_5_code 2 = .ok (.invokevirtual 35, 3) := by decide +kernel
theorem k_Wi_isNumber : MOk m_Wi_isNumber 1 ∧ IOk m_Wi_isNumber := ⟨⟨atG 1107 (by decide +kernel) rfl, atG 120 (by decide +kernel) rfl, ⟨by decide, by decide⟩, by decide +kernel, by decide⟩, atG 1105 (by decide +kernel) rfl, atG 1106 (by decide +kernel) rfl⟩
theorem lk_Wi_35 : Cond.methodLink "ShadeTown$Wishes" 35 ⟨"ShadeTown$Wishes", "isNumber", "(I)Z"⟩ ∈ tblG := atG 1112 (by decide +kernel) rfl
theorem d_Wi_tell_58 : decode prog_11_method_5_code 58 = .ok (.return_, 1) := by decide +kernel
theorem d_Wi_tell_8 : decode prog_11_method_5_code 8 = .ok (.aload_n 0, 1) := by decide +kernel
theorem d_Wi_tell_9 : decode prog_11_method_5_code 9 = .ok (.dup, 1) := by decide +kernel
theorem fl_Wi_9 : FL "ShadeTown$Wishes" 9 T_Wi 0 := atG 387 (by decide +kernel) rfl
theorem d_Wi_tell_10 : decode prog_11_method_5_code 10 = .ok (.getfield 9, 3) := by decide +kernel
theorem d_Wi_tell_13 : decode prog_11_method_5_code 13 = .ok (.iconst 1, 1) := by decide +kernel
theorem d_Wi_tell_14 : decode prog_11_method_5_code 14 = .ok (.iload_n 1, 1) := by decide +kernel
theorem d_Wi_tell_15 : decode prog_11_method_5_code 15 = .ok (.ishl, 1) := by decide +kernel
theorem d_Wi_tell_16 : decode prog_11_method_5_code 16 = .ok (.ior, 1) := by decide +kernel
theorem d_Wi_tell_17 : decode prog_11_method_5_code 17 = .ok (.putfield 9, 3) := by decide +kernel
theorem d_Wi_tell_20 : decode prog_11_method_5_code 20 = .ok (.aload_n 0, 1) := by decide +kernel
theorem fl_Wi_15 : FL "ShadeTown$Wishes" 15 T_Wi 1 := atG 388 (by decide +kernel) rfl
theorem d_Wi_tell_21 : decode prog_11_method_5_code 21 = .ok (.getfield 15, 3) := by decide +kernel
theorem d_Wi_tell_24 : decode prog_11_method_5_code 24 = .ok (.iload_n 1, 1) := by decide +kernel
theorem d_Wi_tell_25 : decode prog_11_method_5_code 25 = .ok (.iload_n 2, 1) := by decide +kernel
theorem d_Wi_tell_26 : decode prog_11_method_5_code 26 = .ok (.iastore, 1) := by decide +kernel
theorem d_Wi_tell_27 : decode prog_11_method_5_code 27 = .ok (.aload_n 0, 1) := by decide +kernel
theorem fl_Wi_19 : FL "ShadeTown$Wishes" 19 T_Wi 2 := atG 389 (by decide +kernel) rfl
theorem d_Wi_tell_28 : decode prog_11_method_5_code 28 = .ok (.getfield 19, 3) := by decide +kernel
theorem d_Wi_tell_31 : decode prog_11_method_5_code 31 = .ok (.iload_n 1, 1) := by decide +kernel
theorem d_Wi_tell_32 : decode prog_11_method_5_code 32 = .ok (.iload_n 3, 1) := by decide +kernel
theorem d_Wi_tell_33 : decode prog_11_method_5_code 33 = .ok (.iastore, 1) := by decide +kernel
theorem d_Wi_tell_34 : decode prog_11_method_5_code 34 = .ok (.aload_n 0, 1) := by decide +kernel
theorem fl_Wi_22 : FL "ShadeTown$Wishes" 22 T_Wi 3 := atG 390 (by decide +kernel) rfl
theorem d_Wi_tell_35 : decode prog_11_method_5_code 35 = .ok (.getfield 22, 3) := by decide +kernel
theorem d_Wi_tell_38 : decode prog_11_method_5_code 38 = .ok (.iload_n 1, 1) := by decide +kernel
theorem d_Wi_tell_39 : decode prog_11_method_5_code 39 = .ok (.iload 4, 2) := by decide +kernel
theorem d_Wi_tell_41 : decode prog_11_method_5_code 41 = .ok (.iastore, 1) := by decide +kernel
theorem d_Wi_tell_42 : decode prog_11_method_5_code 42 = .ok (.aload_n 0, 1) := by decide +kernel
theorem fl_Wi_25 : FL "ShadeTown$Wishes" 25 T_Wi 4 := atG 391 (by decide +kernel) rfl
theorem d_Wi_tell_43 : decode prog_11_method_5_code 43 = .ok (.getfield 25, 3) := by decide +kernel
theorem d_Wi_tell_46 : decode prog_11_method_5_code 46 = .ok (.iload_n 1, 1) := by decide +kernel
theorem d_Wi_tell_47 : decode prog_11_method_5_code 47 = .ok (.iload 5, 2) := by decide +kernel
theorem d_Wi_tell_49 : decode prog_11_method_5_code 49 = .ok (.bastore, 1) := by decide +kernel
theorem d_Wi_tell_50 : decode prog_11_method_5_code 50 = .ok (.aload_n 0, 1) := by decide +kernel
theorem fl_Wi_29 : FL "ShadeTown$Wishes" 29 T_Wi 5 := atG 392 (by decide +kernel) rfl
theorem d_Wi_tell_51 : decode prog_11_method_5_code 51 = .ok (.getfield 29, 3) := by decide +kernel
theorem d_Wi_tell_54 : decode prog_11_method_5_code 54 = .ok (.iload_n 1, 1) := by decide +kernel
theorem d_Wi_tell_55 : decode prog_11_method_5_code 55 = .ok (.iload 6, 2) := by decide +kernel
theorem d_Wi_tell_57 : decode prog_11_method_5_code 57 = .ok (.iastore, 1) := by decide +kernel
theorem d_Wi_tell_5 : decode prog_11_method_5_code 5 = .ok (.ifCond .eq 53, 3) := by decide +kernel
def f_Wi_tell (σ : Mem) (a1 : Int32) (a2 : Int32) (a3 : Int32) (a4 : Int32) (a5 : Int32) (a6 : Int32) : Option (Mem) :=
  bnd1 (f_Wi_isNumber a1) fun r2 =>
  if r2 = 0 then
    (some σ)
  else
    (letv (sI σ 56 0 ((mI σ 56 0) ||| (1 <<< (a1 &&& 31)))) fun σ17 =>
    grd (inb a1 16) <|
    letv (sI σ17 57 (a1.toNatClampNeg) a2) fun σ26 =>
    grd (inb a1 16) <|
    letv (sI σ26 58 (a1.toNatClampNeg) a3) fun σ33 =>
    grd (inb a1 16) <|
    letv (sI σ33 59 (a1.toNatClampNeg) a4) fun σ41 =>
    grd (inb a1 16) <|
    letv (sI σ41 60 (a1.toNatClampNeg) (a5 &&& 1)) fun σ49 =>
    grd (inb a1 16) <|
    letv (sI σ49 61 (a1.toNatClampNeg) a6) fun σ57 =>
    some σ57)
set_option maxHeartbeats 4000000 in
set_option maxRecDepth 20000 in
theorem c_Wi_tell (Z : ZX) {σ : Mem} {a1 : Int32} {a2 : Int32} {a3 : Int32} {a4 : Int32} {a5 : Int32} {a6 : Int32} {σ' : Mem} (h : f_Wi_tell σ a1 a2 a3 a4 a5 a6 = some σ') : CN Z 1 m_Wi_tell [rf Z 56, .int a1, .int a2, .int a3, .int a4, .int a5, .int a6] σ σ' := by
  refine Ct.of (by decide +kernel) (Nat.le_of_ble_eq_true rfl) (fun Y => ?_)
  show V (mkB Z) Y m_Wi_tell 1 (QP (mkB Z) Y nC 0 0 (fun v t => v = none ∧ t = σ')) 0 0 nC σ 0 [(0, rf Z 56), (1, .int a1), (2, .int a2), (3, .int a3), (4, .int a4), (5, .int a5), (6, .int a6)] []
  unfold f_Wi_tell at h
  refine V.aload_n d_Wi_tell_0 rfl 0 rfl ?_
  refine V.iload_n d_Wi_tell_1 rfl 1 rfl ?_
  obtain ⟨r2, h1, h⟩ := bnd1_e h
  refine V.vI (as := [.int a1]) (st := []) (c_Wi_isNumber Z h1) k_Wi_isNumber lk_Wi_35 (by decide) rfl (by decide) ly_56 ok_Wi.1 rfl (Nat.le_of_ble_eq_true rfl) d_Wi_tell_2 ?_
  refine V.if_eq (tgt := 58) d_Wi_tell_5 (by decide) (fun hc5 => ?_) (fun hc5 => ?_)
  · replace h := ite_t hc5 h
    cases h
    exact V.vret rfl d_Wi_tell_58 ⟨rfl, rfl⟩
  · replace h := ite_f hc5 h
    refine V.aload_n d_Wi_tell_8 rfl 0 rfl ?_
    refine V.dup d_Wi_tell_9 rfl ?_
    refine V.getI ok_Wi fl_Wi_9 (by decide) (by decide) ly_56 rfl d_Wi_tell_10 ?_
    refine V.iconst (v := 1) d_Wi_tell_13 (by decide) ?_
    refine V.iload_n d_Wi_tell_14 rfl 1 rfl ?_
    refine V.ishl d_Wi_tell_15 ?_
    refine V.ior d_Wi_tell_16 ?_
    obtain ⟨σ17, e_σ17, h⟩ := letv_e h
    refine V.putI ok_Wi fl_Wi_9 (by decide) (by decide) ly_56 rfl rfl rfl rfl d_Wi_tell_17 (V.mem e_σ17 ?_)
    refine V.aload_n d_Wi_tell_20 rfl 0 rfl ?_
    refine V.getR (r := 57) ok_Wi fl_Wi_15 (by decide) (by decide) ly_56 rfl d_Wi_tell_21 ?_
    refine V.iload_n d_Wi_tell_24 rfl 1 rfl ?_
    refine V.iload_n d_Wi_tell_25 rfl 2 rfl ?_
    obtain ⟨gq, h⟩ := grd_e h
    obtain ⟨σ26, e_σ26, h⟩ := letv_e h
    refine V.wa (by decide) ly_57 (inb_e gq) rfl d_Wi_tell_26 e_σ26 ?_
    refine V.aload_n d_Wi_tell_27 rfl 0 rfl ?_
    refine V.getR (r := 58) ok_Wi fl_Wi_19 (by decide) (by decide) ly_56 rfl d_Wi_tell_28 ?_
    refine V.iload_n d_Wi_tell_31 rfl 1 rfl ?_
    refine V.iload_n d_Wi_tell_32 rfl 3 rfl ?_
    obtain ⟨gq, h⟩ := grd_e h
    obtain ⟨σ33, e_σ33, h⟩ := letv_e h
    refine V.wa (by decide) ly_58 (inb_e gq) rfl d_Wi_tell_33 e_σ33 ?_
    refine V.aload_n d_Wi_tell_34 rfl 0 rfl ?_
    refine V.getR (r := 59) ok_Wi fl_Wi_22 (by decide) (by decide) ly_56 rfl d_Wi_tell_35 ?_
    refine V.iload_n d_Wi_tell_38 rfl 1 rfl ?_
    refine V.iload d_Wi_tell_39 4 rfl ?_
    obtain ⟨gq, h⟩ := grd_e h
    obtain ⟨σ41, e_σ41, h⟩ := letv_e h
    refine V.wa (by decide) ly_59 (inb_e gq) rfl d_Wi_tell_41 e_σ41 ?_
    refine V.aload_n d_Wi_tell_42 rfl 0 rfl ?_
    refine V.getR (r := 60) ok_Wi fl_Wi_25 (by decide) (by decide) ly_56 rfl d_Wi_tell_43 ?_
    refine V.iload_n d_Wi_tell_46 rfl 1 rfl ?_
    refine V.iload d_Wi_tell_47 5 rfl ?_
    obtain ⟨gq, h⟩ := grd_e h
    obtain ⟨σ49, e_σ49, h⟩ := letv_e h
    refine V.wz (by decide) ly_60 (inb_e gq) rfl d_Wi_tell_49 e_σ49 ?_
    refine V.aload_n d_Wi_tell_50 rfl 0 rfl ?_
    refine V.getR (r := 61) ok_Wi fl_Wi_29 (by decide) (by decide) ly_56 rfl d_Wi_tell_51 ?_
    refine V.iload_n d_Wi_tell_54 rfl 1 rfl ?_
    refine V.iload d_Wi_tell_55 6 rfl ?_
    obtain ⟨gq, h⟩ := grd_e h
    obtain ⟨σ57, e_σ57, h⟩ := letv_e h
    refine V.wa (by decide) ly_61 (inb_e gq) rfl d_Wi_tell_57 e_σ57 ?_
    cases h
    exact V.vret rfl d_Wi_tell_58 ⟨rfl, rfl⟩
abbrev m_Sh_wish : MI := (⟨"ShadeTown", "wish", "(IIIIIZI)Z"⟩, prog_1_method_22_code, 8, (Option.some Jvm.ClassFile.FieldType.boolean))
theorem d_Sh_wish_0 : decode prog_1_method_22_code 0 = .ok (.aload_n 0, 1) := by decide +kernel
theorem fl_Sh_82 : FL "ShadeTown" 82 T_Sh 11 := atG 430 (by decide +kernel) rfl
theorem d_Sh_wish_1 : decode prog_1_method_22_code 1 = .ok (.getfield 82, 3) := by decide +kernel
theorem d_Sh_wish_4 : decode prog_1_method_22_code 4 = .ok (.iload_n 1, 1) := by decide +kernel
theorem d_Sh_wish_5 : decode prog_1_method_22_code 5 = .ok (.invokevirtual 285, 3) := by decide +kernel
theorem lk_Sh_285 : Cond.methodLink "ShadeTown" 285 ⟨"ShadeTown$Wishes", "isNumber", "(I)Z"⟩ ∈ tblG := atG 1104 (by decide +kernel) rfl
theorem d_Sh_wish_44 : decode prog_1_method_22_code 44 = .ok (.iconst 0, 1) := by decide +kernel
theorem d_Sh_wish_45 : decode prog_1_method_22_code 45 = .ok (.ireturn, 1) := by decide +kernel
theorem d_Sh_wish_11 : decode prog_1_method_22_code 11 = .ok (.iload_n 2, 1) := by decide +kernel
theorem d_Sh_wish_12 : decode prog_1_method_22_code 12 = .ok (.iload_n 3, 1) := by decide +kernel
theorem d_Sh_wish_13 : decode prog_1_method_22_code 13 = .ok (.invokestatic 119, 3) := by decide +kernel
theorem d_Sh_wish_19 : decode prog_1_method_22_code 19 = .ok (.iload 4, 2) := by decide +kernel
theorem d_Sh_wish_21 : decode prog_1_method_22_code 21 = .ok (.iload 5, 2) := by decide +kernel
theorem d_Sh_wish_23 : decode prog_1_method_22_code 23 = .ok (.bipush 24, 2) := by decide +kernel
theorem d_Sh_wish_25 : decode prog_1_method_22_code 25 = .ok (.invokestatic 227, 3) := by decide +kernel
theorem d_Sh_wish_31 : decode prog_1_method_22_code 31 = .ok (.iload 7, 2) := by decide +kernel
theorem d_Sh_wish_33 : decode prog_1_method_22_code 33 = .ok (.iconst 1, 1) := by decide +kernel
theorem d_Sh_wish_37 : decode prog_1_method_22_code 37 = .ok (.iload 7, 2) := by decide +kernel
theorem d_Sh_wish_39 : decode prog_1_method_22_code 39 = .ok (.bipush 99, 2) := by decide +kernel
theorem d_Sh_wish_46 : decode prog_1_method_22_code 46 = .ok (.aload_n 0, 1) := by decide +kernel
theorem d_Sh_wish_47 : decode prog_1_method_22_code 47 = .ok (.getfield 82, 3) := by decide +kernel
theorem d_Sh_wish_50 : decode prog_1_method_22_code 50 = .ok (.iload_n 1, 1) := by decide +kernel
theorem d_Sh_wish_51 : decode prog_1_method_22_code 51 = .ok (.bipush 12, 2) := by decide +kernel
theorem d_Sh_wish_53 : decode prog_1_method_22_code 53 = .ok (.iload_n 3, 1) := by decide +kernel
theorem d_Sh_wish_54 : decode prog_1_method_22_code 54 = .ok (.imul, 1) := by decide +kernel
theorem d_Sh_wish_55 : decode prog_1_method_22_code 55 = .ok (.iload_n 2, 1) := by decide +kernel
theorem d_Sh_wish_56 : decode prog_1_method_22_code 56 = .ok (.iadd, 1) := by decide +kernel
theorem d_Sh_wish_57 : decode prog_1_method_22_code 57 = .ok (.iload 4, 2) := by decide +kernel
theorem d_Sh_wish_59 : decode prog_1_method_22_code 59 = .ok (.iload 5, 2) := by decide +kernel
theorem d_Sh_wish_61 : decode prog_1_method_22_code 61 = .ok (.iload 6, 2) := by decide +kernel
theorem d_Sh_wish_63 : decode prog_1_method_22_code 63 = .ok (.iload 7, 2) := by decide +kernel
theorem d_Sh_wish_65 : decode prog_1_method_22_code 65 = .ok (.invokevirtual 286, 3) := by decide +kernel
theorem k_Wi_tell : MOk m_Wi_tell 6 ∧ IOk m_Wi_tell := ⟨⟨atG 1111 (by decide +kernel) rfl, atG 120 (by decide +kernel) rfl, ⟨by decide, by decide⟩, by decide +kernel, by decide⟩, atG 1109 (by decide +kernel) rfl, atG 1110 (by decide +kernel) rfl⟩
theorem lk_Sh_286 : Cond.methodLink "ShadeTown" 286 ⟨"ShadeTown$Wishes", "tell", "(IIIIZI)V"⟩ ∈ tblG := atG 1108 (by decide +kernel) rfl
theorem d_Sh_wish_68 : decode prog_1_method_22_code 68 = .ok (.iconst 1, 1) := by decide +kernel
theorem d_Sh_wish_69 : decode prog_1_method_22_code 69 = .ok (.ireturn, 1) := by decide +kernel
theorem d_Sh_wish_41 : decode prog_1_method_22_code 41 = .ok (.if_icmp .le 5, 3) := by decide +kernel
theorem d_Sh_wish_34 : decode prog_1_method_22_code 34 = .ok (.if_icmp .lt 10, 3) := by decide +kernel
theorem d_Sh_wish_28 : decode prog_1_method_22_code 28 = .ok (.ifCond .eq 16, 3) := by decide +kernel
theorem d_Sh_wish_16 : decode prog_1_method_22_code 16 = .ok (.ifCond .eq 28, 3) := by decide +kernel
theorem d_Sh_wish_8 : decode prog_1_method_22_code 8 = .ok (.ifCond .eq 36, 3) := by decide +kernel
def f_Sh_wish (σ : Mem) (a1 : Int32) (a2 : Int32) (a3 : Int32) (a4 : Int32) (a5 : Int32) (a6 : Int32) (a7 : Int32) : Option (Int32 × Mem) :=
  bnd1 (f_Wi_isNumber a1) fun r5 =>
  if r5 = 0 then
    (some (0, σ))
  else
    (bnd1 (f_Sh_inTown a2 a3) fun r13 =>
    if r13 = 0 then
      (some (0, σ))
    else
      (bnd1 (f_Sh_areHours a4 a5 24) fun r25 =>
      if r25 = 0 then
        (some (0, σ))
      else
        (if a7 < 1 then
          (some (0, σ))
        else
          (if a7 ≤ 99 then
            (bnd1 (f_Wi_tell σ a1 ((12 * a3) + a2) a4 a5 a6 a7) fun σ65 =>
            some (1, σ65))
          else
            (some (0, σ))))))
set_option maxHeartbeats 4000000 in
set_option maxRecDepth 20000 in
theorem c_Sh_wish (Z : ZX) {σ : Mem} {a1 : Int32} {a2 : Int32} {a3 : Int32} {a4 : Int32} {a5 : Int32} {a6 : Int32} {a7 : Int32} {r : Int32} {σ' : Mem} (h : f_Sh_wish σ a1 a2 a3 a4 a5 a6 a7 = some (r, σ')) : CI Z 2 m_Sh_wish [rf Z 0, .int a1, .int a2, .int a3, .int a4, .int a5, .int a6, .int a7] σ r σ' := by
  refine Ct.of (by decide +kernel) (Nat.le_of_ble_eq_true rfl) (fun Y => ?_)
  show V (mkB Z) Y m_Sh_wish 2 (QP (mkB Z) Y nC 0 0 (fun v t => v = some (.int r) ∧ t = σ')) 0 0 nC σ 0 [(0, rf Z 0), (1, .int a1), (2, .int a2), (3, .int a3), (4, .int a4), (5, .int a5), (6, .int a6), (7, .int a7)] []
  unfold f_Sh_wish at h
  refine V.aload_n d_Sh_wish_0 rfl 0 rfl ?_
  refine V.getR (r := 56) ok_Sh fl_Sh_82 (by decide) (by decide) ly_0 rfl d_Sh_wish_1 ?_
  refine V.iload_n d_Sh_wish_4 rfl 1 rfl ?_
  obtain ⟨r5, h1, h⟩ := bnd1_e h
  refine V.vI (as := [.int a1]) (st := []) (c_Wi_isNumber Z h1) k_Wi_isNumber lk_Sh_285 (by decide) rfl (by decide) ly_56 ok_Wi.1 rfl (Nat.le_of_ble_eq_true rfl) d_Sh_wish_5 ?_
  refine V.if_eq (tgt := 44) d_Sh_wish_8 (by decide) (fun hc8 => ?_) (fun hc8 => ?_)
  · replace h := ite_t hc8 h
    refine V.iconst (v := 0) d_Sh_wish_44 (by decide) ?_
    cases h
    exact V.zret rfl rfl d_Sh_wish_45 ⟨rfl, rfl⟩
  · replace h := ite_f hc8 h
    refine V.iload_n d_Sh_wish_11 rfl 2 rfl ?_
    refine V.iload_n d_Sh_wish_12 rfl 3 rfl ?_
    obtain ⟨r13, h1, h⟩ := bnd1_e h
    refine V.sI (as := [.int a2, .int a3]) (st := []) (c_Sh_inTown Z h1) k_Sh_inTown lk_Sh_119 (by decide) rfl rfl (Nat.le_of_ble_eq_true rfl) d_Sh_wish_13 ?_
    refine V.if_eq (tgt := 44) d_Sh_wish_16 (by decide) (fun hc16 => ?_) (fun hc16 => ?_)
    · replace h := ite_t hc16 h
      refine V.iconst (v := 0) d_Sh_wish_44 (by decide) ?_
      cases h
      exact V.zret rfl rfl d_Sh_wish_45 ⟨rfl, rfl⟩
    · replace h := ite_f hc16 h
      refine V.iload d_Sh_wish_19 4 rfl ?_
      refine V.iload d_Sh_wish_21 5 rfl ?_
      refine V.bipush (v := 24) d_Sh_wish_23 (by decide) ?_
      obtain ⟨r25, h1, h⟩ := bnd1_e h
      refine V.sI (as := [.int a4, .int a5, .int 24]) (st := []) (c_Sh_areHours Z h1) k_Sh_areHours lk_Sh_227 (by decide) rfl rfl (Nat.le_of_ble_eq_true rfl) d_Sh_wish_25 ?_
      refine V.if_eq (tgt := 44) d_Sh_wish_28 (by decide) (fun hc28 => ?_) (fun hc28 => ?_)
      · replace h := ite_t hc28 h
        refine V.iconst (v := 0) d_Sh_wish_44 (by decide) ?_
        cases h
        exact V.zret rfl rfl d_Sh_wish_45 ⟨rfl, rfl⟩
      · replace h := ite_f hc28 h
        refine V.iload d_Sh_wish_31 7 rfl ?_
        refine V.iconst (v := 1) d_Sh_wish_33 (by decide) ?_
        refine V.icmp_lt (tgt := 44) d_Sh_wish_34 (by decide) (fun hc34 => ?_) (fun hc34 => ?_)
        · replace h := ite_t hc34 h
          refine V.iconst (v := 0) d_Sh_wish_44 (by decide) ?_
          cases h
          exact V.zret rfl rfl d_Sh_wish_45 ⟨rfl, rfl⟩
        · replace h := ite_f hc34 h
          refine V.iload d_Sh_wish_37 7 rfl ?_
          refine V.bipush (v := 99) d_Sh_wish_39 (by decide) ?_
          refine V.icmp_le (tgt := 46) d_Sh_wish_41 (by decide) (fun hc41 => ?_) (fun hc41 => ?_)
          · replace h := ite_t hc41 h
            refine V.aload_n d_Sh_wish_46 rfl 0 rfl ?_
            refine V.getR (r := 56) ok_Sh fl_Sh_82 (by decide) (by decide) ly_0 rfl d_Sh_wish_47 ?_
            refine V.iload_n d_Sh_wish_50 rfl 1 rfl ?_
            refine V.bipush (v := 12) d_Sh_wish_51 (by decide) ?_
            refine V.iload_n d_Sh_wish_53 rfl 3 rfl ?_
            refine V.imul d_Sh_wish_54 ?_
            refine V.iload_n d_Sh_wish_55 rfl 2 rfl ?_
            refine V.iadd d_Sh_wish_56 ?_
            refine V.iload d_Sh_wish_57 4 rfl ?_
            refine V.iload d_Sh_wish_59 5 rfl ?_
            refine V.iload d_Sh_wish_61 6 rfl ?_
            refine V.iload d_Sh_wish_63 7 rfl ?_
            obtain ⟨σ65, h1, h⟩ := bnd1_e h
            refine V.vN (as := [.int a1, .int ((12 * a3) + a2), .int a4, .int a5, .int a6, .int a7]) (st := []) (c_Wi_tell Z h1) k_Wi_tell lk_Sh_286 (by decide) rfl (by decide) ly_56 ok_Wi.1 rfl (Nat.le_of_ble_eq_true rfl) d_Sh_wish_65 ?_
            refine V.iconst (v := 1) d_Sh_wish_68 (by decide) ?_
            cases h
            exact V.zret rfl rfl d_Sh_wish_69 ⟨rfl, rfl⟩
          · replace h := ite_f hc41 h
            refine V.iconst (v := 0) d_Sh_wish_44 (by decide) ?_
            cases h
            exact V.zret rfl rfl d_Sh_wish_45 ⟨rfl, rfl⟩
abbrev m_Wi_isTold : MI := (⟨"ShadeTown$Wishes", "isTold", "(I)Z"⟩, prog_11_method_3_code, 2, (Option.some Jvm.ClassFile.FieldType.boolean))
theorem d_Wi_isTold_0 : decode prog_11_method_3_code 0 = .ok (.aload_n 0, 1) := by decide +kernel
theorem d_Wi_isTold_1 : decode prog_11_method_3_code 1 = .ok (.iload_n 1, 1) := by decide +kernel
theorem d_Wi_isTold_2 : decode prog_11_method_3_code 2 = .ok (.invokevirtual 35, 3) := by decide +kernel
theorem d_Wi_isTold_24 : decode prog_11_method_3_code 24 = .ok (.iconst 0, 1) := by decide +kernel
theorem d_Wi_isTold_25 : decode prog_11_method_3_code 25 = .ok (.ireturn, 1) := by decide +kernel
theorem d_Wi_isTold_8 : decode prog_11_method_3_code 8 = .ok (.aload_n 0, 1) := by decide +kernel
theorem d_Wi_isTold_9 : decode prog_11_method_3_code 9 = .ok (.getfield 9, 3) := by decide +kernel
theorem d_Wi_isTold_12 : decode prog_11_method_3_code 12 = .ok (.iload_n 1, 1) := by decide +kernel
theorem d_Wi_isTold_13 : decode prog_11_method_3_code 13 = .ok (.ishr, 1) := by decide +kernel
theorem d_Wi_isTold_14 : decode prog_11_method_3_code 14 = .ok (.iconst 1, 1) := by decide +kernel
theorem d_Wi_isTold_15 : decode prog_11_method_3_code 15 = .ok (.iand, 1) := by decide +kernel
theorem d_Wi_isTold_16 : decode prog_11_method_3_code 16 = .ok (.iconst 1, 1) := by decide +kernel
theorem d_Wi_isTold_20 : decode prog_11_method_3_code 20 = .ok (.iconst 1, 1) := by decide +kernel
theorem d_Wi_isTold_21 : decode prog_11_method_3_code 21 = .ok (.goto 4, 3) := by decide +kernel
theorem d_Wi_isTold_17 : decode prog_11_method_3_code 17 = .ok (.if_icmp .ne 7, 3) := by decide +kernel
theorem d_Wi_isTold_5 : decode prog_11_method_3_code 5 = .ok (.ifCond .eq 19, 3) := by decide +kernel
def f_Wi_isTold (σ : Mem) (a1 : Int32) : Option (Int32) :=
  bnd1 (f_Wi_isNumber a1) fun r2 =>
  if r2 = 0 then
    (some 0)
  else
    (if ((mI σ 56 0) >>> (a1 &&& 31)) &&& 1 = 1 then
      (some 1)
    else
      (some 0))
set_option maxHeartbeats 4000000 in
set_option maxRecDepth 20000 in
theorem c_Wi_isTold (Z : ZX) {σ : Mem} {a1 : Int32} {r : Int32} (h : f_Wi_isTold σ a1 = some r) : CI Z 1 m_Wi_isTold [rf Z 56, .int a1] σ r σ := by
  refine Ct.of (by decide +kernel) (Nat.le_of_ble_eq_true rfl) (fun Y => ?_)
  show V (mkB Z) Y m_Wi_isTold 1 (QP (mkB Z) Y nC 0 0 (fun v t => v = some (.int r) ∧ t = σ)) 0 0 nC σ 0 [(0, rf Z 56), (1, .int a1)] []
  unfold f_Wi_isTold at h
  refine V.aload_n d_Wi_isTold_0 rfl 0 rfl ?_
  refine V.iload_n d_Wi_isTold_1 rfl 1 rfl ?_
  obtain ⟨r2, h1, h⟩ := bnd1_e h
  refine V.vI (as := [.int a1]) (st := []) (c_Wi_isNumber Z h1) k_Wi_isNumber lk_Wi_35 (by decide) rfl (by decide) ly_56 ok_Wi.1 rfl (Nat.le_of_ble_eq_true rfl) d_Wi_isTold_2 ?_
  refine V.if_eq (tgt := 24) d_Wi_isTold_5 (by decide) (fun hc5 => ?_) (fun hc5 => ?_)
  · replace h := ite_t hc5 h
    refine V.iconst (v := 0) d_Wi_isTold_24 (by decide) ?_
    cases h
    exact V.zret rfl rfl d_Wi_isTold_25 ⟨rfl, rfl⟩
  · replace h := ite_f hc5 h
    refine V.aload_n d_Wi_isTold_8 rfl 0 rfl ?_
    refine V.getI ok_Wi fl_Wi_9 (by decide) (by decide) ly_56 rfl d_Wi_isTold_9 ?_
    refine V.iload_n d_Wi_isTold_12 rfl 1 rfl ?_
    refine V.ishr d_Wi_isTold_13 ?_
    refine V.iconst (v := 1) d_Wi_isTold_14 (by decide) ?_
    refine V.iand d_Wi_isTold_15 ?_
    refine V.iconst (v := 1) d_Wi_isTold_16 (by decide) ?_
    refine V.icmp_ne (tgt := 24) d_Wi_isTold_17 (by decide) (fun hc17 => ?_) (fun hc17 => ?_)
    · replace h := ite_f hc17 h
      refine V.iconst (v := 0) d_Wi_isTold_24 (by decide) ?_
      cases h
      exact V.zret rfl rfl d_Wi_isTold_25 ⟨rfl, rfl⟩
    · replace h := ite_t hc17 h
      refine V.iconst (v := 1) d_Wi_isTold_20 (by decide) ?_
      refine V.goto (tgt := 25) d_Wi_isTold_21 (by decide) ?_
      cases h
      exact V.zret rfl rfl d_Wi_isTold_25 ⟨rfl, rfl⟩
abbrev m_Wi_isAsked : MI := (⟨"ShadeTown$Wishes", "isAsked", "(LShadeTown$Day;II)Z"⟩, prog_11_method_14_code, 4, (Option.some Jvm.ClassFile.FieldType.boolean))
theorem d_Wi_isAsked_0 : decode prog_11_method_14_code 0 = .ok (.aload_n 0, 1) := by decide +kernel
theorem d_Wi_isAsked_1 : decode prog_11_method_14_code 1 = .ok (.iload_n 2, 1) := by decide +kernel
theorem d_Wi_isAsked_2 : decode prog_11_method_14_code 2 = .ok (.invokevirtual 49, 3) := by decide +kernel
theorem k_Wi_isTold : MOk m_Wi_isTold 1 ∧ IOk m_Wi_isTold := ⟨⟨atG 1120 (by decide +kernel) rfl, atG 120 (by decide +kernel) rfl, ⟨by decide, by decide⟩, by decide +kernel, by decide⟩, atG 1118 (by decide +kernel) rfl, atG 1119 (by decide +kernel) rfl⟩
theorem lk_Wi_49 : Cond.methodLink "ShadeTown$Wishes" 49 ⟨"ShadeTown$Wishes", "isTold", "(I)Z"⟩ ∈ tblG := atG 1129 (by decide +kernel) rfl
theorem d_Wi_isAsked_53 : decode prog_11_method_14_code 53 = .ok (.iconst 0, 1) := by decide +kernel
theorem d_Wi_isAsked_54 : decode prog_11_method_14_code 54 = .ok (.ireturn, 1) := by decide +kernel
theorem d_Wi_isAsked_8 : decode prog_11_method_14_code 8 = .ok (.iload_n 3, 1) := by decide +kernel
theorem d_Wi_isAsked_9 : decode prog_11_method_14_code 9 = .ok (.aload_n 0, 1) := by decide +kernel
theorem d_Wi_isAsked_10 : decode prog_11_method_14_code 10 = .ok (.getfield 19, 3) := by decide +kernel
theorem d_Wi_isAsked_13 : decode prog_11_method_14_code 13 = .ok (.iload_n 2, 1) := by decide +kernel
theorem d_Wi_isAsked_14 : decode prog_11_method_14_code 14 = .ok (.iaload, 1) := by decide +kernel
theorem d_Wi_isAsked_18 : decode prog_11_method_14_code 18 = .ok (.iload_n 3, 1) := by decide +kernel
theorem d_Wi_isAsked_19 : decode prog_11_method_14_code 19 = .ok (.aload_n 0, 1) := by decide +kernel
theorem d_Wi_isAsked_20 : decode prog_11_method_14_code 20 = .ok (.getfield 22, 3) := by decide +kernel
theorem d_Wi_isAsked_23 : decode prog_11_method_14_code 23 = .ok (.iload_n 2, 1) := by decide +kernel
theorem d_Wi_isAsked_24 : decode prog_11_method_14_code 24 = .ok (.iaload, 1) := by decide +kernel
theorem d_Wi_isAsked_28 : decode prog_11_method_14_code 28 = .ok (.aload_n 1, 1) := by decide +kernel
theorem d_Wi_isAsked_29 : decode prog_11_method_14_code 29 = .ok (.iload_n 3, 1) := by decide +kernel
theorem d_Wi_isAsked_30 : decode prog_11_method_14_code 30 = .ok (.invokevirtual 94, 3) := by decide +kernel
theorem lk_Wi_94 : Cond.methodLink "ShadeTown$Wishes" 94 ⟨"ShadeTown$Day", "isUp", "(I)Z"⟩ ∈ tblG := atG 1130 (by decide +kernel) rfl
theorem d_Wi_isAsked_36 : decode prog_11_method_14_code 36 = .ok (.aload_n 1, 1) := by decide +kernel
theorem d_Wi_isAsked_37 : decode prog_11_method_14_code 37 = .ok (.aload_n 0, 1) := by decide +kernel
theorem d_Wi_isAsked_38 : decode prog_11_method_14_code 38 = .ok (.getfield 15, 3) := by decide +kernel
theorem d_Wi_isAsked_41 : decode prog_11_method_14_code 41 = .ok (.iload_n 2, 1) := by decide +kernel
theorem d_Wi_isAsked_42 : decode prog_11_method_14_code 42 = .ok (.iaload, 1) := by decide +kernel
theorem d_Wi_isAsked_43 : decode prog_11_method_14_code 43 = .ok (.invokevirtual 68, 3) := by decide +kernel
theorem lk_Wi_68 : Cond.methodLink "ShadeTown$Wishes" 68 ⟨"ShadeTown$Day", "isFree", "(I)Z"⟩ ∈ tblG := atG 1131 (by decide +kernel) rfl
theorem d_Wi_isAsked_49 : decode prog_11_method_14_code 49 = .ok (.iconst 1, 1) := by decide +kernel
theorem d_Wi_isAsked_50 : decode prog_11_method_14_code 50 = .ok (.goto 4, 3) := by decide +kernel
theorem d_Wi_isAsked_46 : decode prog_11_method_14_code 46 = .ok (.ifCond .eq 7, 3) := by decide +kernel
theorem d_Wi_isAsked_33 : decode prog_11_method_14_code 33 = .ok (.ifCond .eq 20, 3) := by decide +kernel
theorem d_Wi_isAsked_25 : decode prog_11_method_14_code 25 = .ok (.if_icmp .ge 28, 3) := by decide +kernel
theorem d_Wi_isAsked_15 : decode prog_11_method_14_code 15 = .ok (.if_icmp .lt 38, 3) := by decide +kernel
theorem d_Wi_isAsked_5 : decode prog_11_method_14_code 5 = .ok (.ifCond .eq 48, 3) := by decide +kernel
def f_Wi_isAsked (σ : Mem) (a2 : Int32) (a3 : Int32) : Option (Int32) :=
  bnd1 (f_Wi_isTold σ a2) fun r2 =>
  if r2 = 0 then
    (some 0)
  else
    (grd (inb a2 16) <|
    if a3 < (mI σ 58 (a2.toNatClampNeg)) then
      (some 0)
    else
      (grd (inb a2 16) <|
      if (mI σ 59 (a2.toNatClampNeg)) ≤ a3 then
        (some 0)
      else
        (bnd1 (f_Da_isUp σ a3) fun r30 =>
        if r30 = 0 then
          (some 0)
        else
          (grd (inb a2 16) <|
          bnd1 (f_Da_isFree σ (mI σ 57 (a2.toNatClampNeg))) fun r43 =>
          if r43 = 0 then
            (some 0)
          else
            (some 1)))))
set_option maxHeartbeats 4000000 in
set_option maxRecDepth 20000 in
theorem c_Wi_isAsked (Z : ZX) {σ : Mem} {a2 : Int32} {a3 : Int32} {r : Int32} (h : f_Wi_isAsked σ a2 a3 = some r) : CI Z 2 m_Wi_isAsked [rf Z 56, rf Z 33, .int a2, .int a3] σ r σ := by
  refine Ct.of (by decide +kernel) (Nat.le_of_ble_eq_true rfl) (fun Y => ?_)
  show V (mkB Z) Y m_Wi_isAsked 2 (QP (mkB Z) Y nC 0 0 (fun v t => v = some (.int r) ∧ t = σ)) 0 0 nC σ 0 [(0, rf Z 56), (1, rf Z 33), (2, .int a2), (3, .int a3)] []
  unfold f_Wi_isAsked at h
  refine V.aload_n d_Wi_isAsked_0 rfl 0 rfl ?_
  refine V.iload_n d_Wi_isAsked_1 rfl 2 rfl ?_
  obtain ⟨r2, h1, h⟩ := bnd1_e h
  refine V.vI (as := [.int a2]) (st := []) (c_Wi_isTold Z h1) k_Wi_isTold lk_Wi_49 (by decide) rfl (by decide) ly_56 ok_Wi.1 rfl (Nat.le_of_ble_eq_true rfl) d_Wi_isAsked_2 ?_
  refine V.if_eq (tgt := 53) d_Wi_isAsked_5 (by decide) (fun hc5 => ?_) (fun hc5 => ?_)
  · replace h := ite_t hc5 h
    refine V.iconst (v := 0) d_Wi_isAsked_53 (by decide) ?_
    cases h
    exact V.zret rfl rfl d_Wi_isAsked_54 ⟨rfl, rfl⟩
  · replace h := ite_f hc5 h
    refine V.iload_n d_Wi_isAsked_8 rfl 3 rfl ?_
    refine V.aload_n d_Wi_isAsked_9 rfl 0 rfl ?_
    refine V.getR (r := 58) ok_Wi fl_Wi_19 (by decide) (by decide) ly_56 rfl d_Wi_isAsked_10 ?_
    refine V.iload_n d_Wi_isAsked_13 rfl 2 rfl ?_
    obtain ⟨gq, h⟩ := grd_e h
    refine V.ra (by decide) ly_58 (inb_e gq) rfl d_Wi_isAsked_14 ?_
    refine V.icmp_lt (tgt := 53) d_Wi_isAsked_15 (by decide) (fun hc15 => ?_) (fun hc15 => ?_)
    · replace h := ite_t hc15 h
      refine V.iconst (v := 0) d_Wi_isAsked_53 (by decide) ?_
      cases h
      exact V.zret rfl rfl d_Wi_isAsked_54 ⟨rfl, rfl⟩
    · replace h := ite_f hc15 h
      refine V.iload_n d_Wi_isAsked_18 rfl 3 rfl ?_
      refine V.aload_n d_Wi_isAsked_19 rfl 0 rfl ?_
      refine V.getR (r := 59) ok_Wi fl_Wi_22 (by decide) (by decide) ly_56 rfl d_Wi_isAsked_20 ?_
      refine V.iload_n d_Wi_isAsked_23 rfl 2 rfl ?_
      obtain ⟨gq, h⟩ := grd_e h
      refine V.ra (by decide) ly_59 (inb_e gq) rfl d_Wi_isAsked_24 ?_
      refine V.icmp_ge (tgt := 53) d_Wi_isAsked_25 (by decide) (fun hc25 => ?_) (fun hc25 => ?_)
      · replace h := ite_t hc25 h
        refine V.iconst (v := 0) d_Wi_isAsked_53 (by decide) ?_
        cases h
        exact V.zret rfl rfl d_Wi_isAsked_54 ⟨rfl, rfl⟩
      · replace h := ite_f hc25 h
        refine V.aload_n d_Wi_isAsked_28 rfl 1 rfl ?_
        refine V.iload_n d_Wi_isAsked_29 rfl 3 rfl ?_
        obtain ⟨r30, h1, h⟩ := bnd1_e h
        refine V.vI (as := [.int a3]) (st := []) (c_Da_isUp Z h1) k_Da_isUp lk_Wi_94 (by decide) rfl (by decide) ly_33 ok_Da.1 rfl (Nat.le_of_ble_eq_true rfl) d_Wi_isAsked_30 ?_
        refine V.if_eq (tgt := 53) d_Wi_isAsked_33 (by decide) (fun hc33 => ?_) (fun hc33 => ?_)
        · replace h := ite_t hc33 h
          refine V.iconst (v := 0) d_Wi_isAsked_53 (by decide) ?_
          cases h
          exact V.zret rfl rfl d_Wi_isAsked_54 ⟨rfl, rfl⟩
        · replace h := ite_f hc33 h
          refine V.aload_n d_Wi_isAsked_36 rfl 1 rfl ?_
          refine V.aload_n d_Wi_isAsked_37 rfl 0 rfl ?_
          refine V.getR (r := 57) ok_Wi fl_Wi_15 (by decide) (by decide) ly_56 rfl d_Wi_isAsked_38 ?_
          refine V.iload_n d_Wi_isAsked_41 rfl 2 rfl ?_
          obtain ⟨gq, h⟩ := grd_e h
          refine V.ra (by decide) ly_57 (inb_e gq) rfl d_Wi_isAsked_42 ?_
          obtain ⟨r43, h1, h⟩ := bnd1_e h
          refine V.vI (as := [.int (mI σ 57 (a2.toNatClampNeg))]) (st := []) (c_Da_isFree Z h1) k_Da_isFree lk_Wi_68 (by decide) rfl (by decide) ly_33 ok_Da.1 rfl (Nat.le_of_ble_eq_true rfl) d_Wi_isAsked_43 ?_
          refine V.if_eq (tgt := 53) d_Wi_isAsked_46 (by decide) (fun hc46 => ?_) (fun hc46 => ?_)
          · replace h := ite_t hc46 h
            refine V.iconst (v := 0) d_Wi_isAsked_53 (by decide) ?_
            cases h
            exact V.zret rfl rfl d_Wi_isAsked_54 ⟨rfl, rfl⟩
          · replace h := ite_f hc46 h
            refine V.iconst (v := 1) d_Wi_isAsked_49 (by decide) ?_
            refine V.goto (tgt := 54) d_Wi_isAsked_50 (by decide) ?_
            cases h
            exact V.zret rfl rfl d_Wi_isAsked_54 ⟨rfl, rfl⟩
abbrev m_Wi_hoursKept : MI := (⟨"ShadeTown$Wishes", "hoursKept", "(LShadeTown$Day;I)I"⟩, prog_11_method_6_code, 5, (Option.some Jvm.ClassFile.FieldType.int))
theorem d_Wi_hoursKept_0 : decode prog_11_method_6_code 0 = .ok (.iconst 0, 1) := by decide +kernel
theorem d_Wi_hoursKept_1 : decode prog_11_method_6_code 1 = .ok (.istore_n 3, 1) := by decide +kernel
theorem d_Wi_hoursKept_2 : decode prog_11_method_6_code 2 = .ok (.iconst 0, 1) := by decide +kernel
theorem d_Wi_hoursKept_3 : decode prog_11_method_6_code 3 = .ok (.istore 4, 2) := by decide +kernel
theorem d_Wi_hoursKept_5 : decode prog_11_method_6_code 5 = .ok (.iload 4, 2) := by decide +kernel
theorem d_Wi_hoursKept_7 : decode prog_11_method_6_code 7 = .ok (.bipush 24, 2) := by decide +kernel
theorem d_Wi_hoursKept_61 : decode prog_11_method_6_code 61 = .ok (.iload_n 3, 1) := by decide +kernel
theorem d_Wi_hoursKept_62 : decode prog_11_method_6_code 62 = .ok (.ireturn, 1) := by decide +kernel
theorem d_Wi_hoursKept_12 : decode prog_11_method_6_code 12 = .ok (.aload_n 0, 1) := by decide +kernel
theorem d_Wi_hoursKept_13 : decode prog_11_method_6_code 13 = .ok (.aload_n 1, 1) := by decide +kernel
theorem d_Wi_hoursKept_14 : decode prog_11_method_6_code 14 = .ok (.iload_n 2, 1) := by decide +kernel
theorem d_Wi_hoursKept_15 : decode prog_11_method_6_code 15 = .ok (.iload 4, 2) := by decide +kernel
theorem d_Wi_hoursKept_17 : decode prog_11_method_6_code 17 = .ok (.invokevirtual 39, 3) := by decide +kernel
theorem k_Wi_isAsked : MOk m_Wi_isAsked 3 ∧ IOk m_Wi_isAsked := ⟨⟨atG 1128 (by decide +kernel) rfl, atG 120 (by decide +kernel) rfl, ⟨by decide, by decide⟩, by decide +kernel, by decide⟩, atG 1127 (by decide +kernel) rfl, atG 34 (by decide +kernel) rfl⟩
theorem lk_Wi_39 : Cond.methodLink "ShadeTown$Wishes" 39 ⟨"ShadeTown$Wishes", "isAsked", "(LShadeTown$Day;II)Z"⟩ ∈ tblG := atG 1125 (by decide +kernel) rfl
theorem d_Wi_hoursKept_23 : decode prog_11_method_6_code 23 = .ok (.aload_n 0, 1) := by decide +kernel
theorem d_Wi_hoursKept_24 : decode prog_11_method_6_code 24 = .ok (.getfield 25, 3) := by decide +kernel
theorem d_Wi_hoursKept_27 : decode prog_11_method_6_code 27 = .ok (.iload_n 2, 1) := by decide +kernel
theorem d_Wi_hoursKept_28 : decode prog_11_method_6_code 28 = .ok (.baload, 1) := by decide +kernel
theorem d_Wi_hoursKept_29 : decode prog_11_method_6_code 29 = .ok (.aload_n 1, 1) := by decide +kernel
theorem d_Wi_hoursKept_30 : decode prog_11_method_6_code 30 = .ok (.iload 4, 2) := by decide +kernel
theorem d_Wi_hoursKept_32 : decode prog_11_method_6_code 32 = .ok (.aload_n 0, 1) := by decide +kernel
theorem d_Wi_hoursKept_33 : decode prog_11_method_6_code 33 = .ok (.getfield 15, 3) := by decide +kernel
theorem d_Wi_hoursKept_36 : decode prog_11_method_6_code 36 = .ok (.iload_n 2, 1) := by decide +kernel
theorem d_Wi_hoursKept_37 : decode prog_11_method_6_code 37 = .ok (.iaload, 1) := by decide +kernel
theorem d_Wi_hoursKept_38 : decode prog_11_method_6_code 38 = .ok (.invokevirtual 43, 3) := by decide +kernel
theorem lk_Wi_43 : Cond.methodLink "ShadeTown$Wishes" 43 ⟨"ShadeTown$Day", "whoCasts", "(II)I"⟩ ∈ tblG := atG 1132 (by decide +kernel) rfl
theorem d_Wi_hoursKept_48 : decode prog_11_method_6_code 48 = .ok (.iconst 0, 1) := by decide +kernel
theorem d_Wi_hoursKept_44 : decode prog_11_method_6_code 44 = .ok (.iconst 1, 1) := by decide +kernel
theorem d_Wi_hoursKept_45 : decode prog_11_method_6_code 45 = .ok (.goto 4, 3) := by decide +kernel
theorem d_Wi_hoursKept_41 : decode prog_11_method_6_code 41 = .ok (.ifCond .ne 7, 3) := by decide +kernel
theorem d_Wi_hoursKept_52 : decode prog_11_method_6_code 52 = .ok (.iinc 3 1, 3) := by decide +kernel
theorem d_Wi_hoursKept_49 : decode prog_11_method_6_code 49 = .ok (.if_icmp .ne 6, 3) := by decide +kernel
theorem d_Wi_hoursKept_20 : decode prog_11_method_6_code 20 = .ok (.ifCond .eq 35, 3) := by decide +kernel
theorem d_Wi_hoursKept_55 : decode prog_11_method_6_code 55 = .ok (.iinc 4 1, 3) := by decide +kernel
theorem d_Wi_hoursKept_58 : decode prog_11_method_6_code 58 = .ok (.goto (-53), 3) := by decide +kernel
theorem d_Wi_hoursKept_9 : decode prog_11_method_6_code 9 = .ok (.if_icmp .ge 52, 3) := by decide +kernel
def B_Wi_hoursKept_l5 (N : Nat) (a2 : Int32) (σ : Mem) (rec : Int32 → Int32 → Option (Int32)) (x3 : Int32) (x4 : Int32) : Option (Int32) :=
  if 24 ≤ x4 then
    (some x3)
  else
    (bnd1 (f_Wi_isAsked σ a2 x4) fun r17 =>
    bnd1 ((
      if r17 = 0 then
        (some x3)
      else
        (grd (inb a2 16) <|
        grd (inb a2 16) <|
        bnd1 (f_Da_whoCasts σ x4 (mI σ 57 (a2.toNatClampNeg))) fun r38 =>
        bnd1 ((
          if r38 = 0 then
            (some 1)
          else
            (some 0)) : Option (Int32)) fun y41_s1 =>
        if (mI σ 60 (a2.toNatClampNeg)) = y41_s1 then
          (letv (x3 + 1) fun v52 =>
          some v52)
        else
          (some x3))) : Option (Int32)) fun y20_3 =>
    letv (x4 + 1) fun v55 =>
    rec y20_3 v55)
def L_Wi_hoursKept_l5 (N : Nat) (a2 : Int32) (σ : Mem) : Nat → Int32 → Int32 → Option (Int32)
  | 0, _, _ => none
  | k + 1, x3, x4 => B_Wi_hoursKept_l5 N a2 σ (L_Wi_hoursKept_l5 N a2 σ k) x3 x4
set_option maxHeartbeats 4000000 in
set_option maxRecDepth 20000 in
theorem cL_Wi_hoursKept_l5 (Z : ZX) {Y : YX} {post : Option Value → Mem → Prop} {N : Nat} {a2 : Int32} {σ : Mem} {Good : Int32 → Prop} (hR : ∀ (v : Int32), Good v → post (some (.int v)) σ) : ∀ (k : Nat) (x3 : Int32) (x4 : Int32) (res : Int32), L_Wi_hoursKept_l5 N a2 σ k x3 x4 = some res → Good res → V (mkB Z) Y m_Wi_hoursKept 3 (QP (mkB Z) Y nC 0 0 post) 0 0 nC σ 5 [(0, rf Z 56), (1, rf Z 33), (2, .int a2), (3, .int x3), (4, .int x4)] [] := by
  intro k
  induction k with
  | zero => intro x3 x4 res h; cases h
  | succ k ih =>
    intro x3 x4 res h hg
    replace h : B_Wi_hoursKept_l5 N a2 σ (L_Wi_hoursKept_l5 N a2 σ k) x3 x4 = some res := h
    unfold B_Wi_hoursKept_l5 at h
    refine V.iload d_Wi_hoursKept_5 4 rfl ?_
    refine V.bipush (v := 24) d_Wi_hoursKept_7 (by decide) ?_
    refine V.icmp_ge (tgt := 61) d_Wi_hoursKept_9 (by decide) (fun hc9 => ?_) (fun hc9 => ?_)
    · replace h := ite_t hc9 h
      refine V.iload_n d_Wi_hoursKept_61 rfl 3 rfl ?_
      cases h
      exact V.iret rfl d_Wi_hoursKept_62 (hR _ hg)
    · replace h := ite_f hc9 h
      refine V.aload_n d_Wi_hoursKept_12 rfl 0 rfl ?_
      refine V.aload_n d_Wi_hoursKept_13 rfl 1 rfl ?_
      refine V.iload_n d_Wi_hoursKept_14 rfl 2 rfl ?_
      refine V.iload d_Wi_hoursKept_15 4 rfl ?_
      obtain ⟨r17, h1, h⟩ := bnd1_e h
      refine V.vI (as := [rf Z 33, .int a2, .int x4]) (st := []) (c_Wi_isAsked Z h1) k_Wi_isAsked lk_Wi_39 (by decide) rfl (by decide) ly_56 ok_Wi.1 rfl (Nat.le_of_ble_eq_true rfl) d_Wi_hoursKept_17 ?_
      obtain ⟨s20, h1, h⟩ := bnd1_e h
      have J20_55 : ∀ (y20_3 : Int32), s20 = y20_3 → V (mkB Z) Y m_Wi_hoursKept 3 (QP (mkB Z) Y nC 0 0 post) 0 0 nC σ 55 [(0, rf Z 56), (1, rf Z 33), (2, .int a2), (3, .int y20_3), (4, .int x4)] [] := by
        intro y20_3 he
        rw [he] at h
        obtain ⟨v55, e_v55, h⟩ := letv_e h
        refine V.iinc (v := v55) (lv' := [(4, .int v55), (0, rf Z 56), (1, rf Z 33), (2, .int a2), (3, .int y20_3)]) d_Wi_hoursKept_55 4 rfl (by rw [e_v55]; rfl) (by decide) rfl ?_
        refine V.goto (tgt := 5) d_Wi_hoursKept_58 (by decide) ?_
        exact V.pick [1, 2, 3, 4, 0] rfl (ih _ _ _ h hg)
      replace h := h1
      refine V.if_eq (tgt := 55) d_Wi_hoursKept_20 (by decide) (fun hc20 => ?_) (fun hc20 => ?_)
      · replace h := ite_t hc20 h
        exact V.pick [0, 1, 2, 3, 4] rfl (J20_55 _ (Option.some.inj h).symm)
      · replace h := ite_f hc20 h
        refine V.aload_n d_Wi_hoursKept_23 rfl 0 rfl ?_
        refine V.getR (r := 60) ok_Wi fl_Wi_25 (by decide) (by decide) ly_56 rfl d_Wi_hoursKept_24 ?_
        refine V.iload_n d_Wi_hoursKept_27 rfl 2 rfl ?_
        obtain ⟨gq, h⟩ := grd_e h
        refine V.rz (by decide) ly_60 (inb_e gq) rfl d_Wi_hoursKept_28 ?_
        refine V.aload_n d_Wi_hoursKept_29 rfl 1 rfl ?_
        refine V.iload d_Wi_hoursKept_30 4 rfl ?_
        refine V.aload_n d_Wi_hoursKept_32 rfl 0 rfl ?_
        refine V.getR (r := 57) ok_Wi fl_Wi_15 (by decide) (by decide) ly_56 rfl d_Wi_hoursKept_33 ?_
        refine V.iload_n d_Wi_hoursKept_36 rfl 2 rfl ?_
        obtain ⟨gq, h⟩ := grd_e h
        refine V.ra (by decide) ly_57 (inb_e gq) rfl d_Wi_hoursKept_37 ?_
        obtain ⟨r38, h1, h⟩ := bnd1_e h
        refine V.vI (as := [.int x4, .int (mI σ 57 (a2.toNatClampNeg))]) (st := [.int (mI σ 60 (a2.toNatClampNeg))]) (c_Da_whoCasts Z h1) k_Da_whoCasts lk_Wi_43 (by decide) rfl (by decide) ly_33 ok_Da.1 rfl (Nat.le_of_ble_eq_true rfl) d_Wi_hoursKept_38 ?_
        obtain ⟨s41, h1, h⟩ := bnd1_e h
        have J41_49 : ∀ (y41_s1 : Int32), s41 = y41_s1 → V (mkB Z) Y m_Wi_hoursKept 3 (QP (mkB Z) Y nC 0 0 post) 0 0 nC σ 49 [(0, rf Z 56), (1, rf Z 33), (2, .int a2), (3, .int x3), (4, .int x4)] [.int y41_s1, .int (mI σ 60 (a2.toNatClampNeg))] := by
          intro y41_s1 he
          rw [he] at h
          refine V.icmp_ne (tgt := 55) d_Wi_hoursKept_49 (by decide) (fun hc49 => ?_) (fun hc49 => ?_)
          · replace h := ite_f hc49 h
            exact V.pick [0, 1, 2, 3, 4] rfl (J20_55 _ (Option.some.inj h).symm)
          · replace h := ite_t hc49 h
            obtain ⟨v52, e_v52, h⟩ := letv_e h
            refine V.iinc (v := v52) (lv' := [(3, .int v52), (0, rf Z 56), (1, rf Z 33), (2, .int a2), (4, .int x4)]) d_Wi_hoursKept_52 3 rfl (by rw [e_v52]; rfl) (by decide) rfl ?_
            exact V.pick [1, 2, 3, 0, 4] rfl (J20_55 _ (Option.some.inj h).symm)
        replace h := h1
        refine V.if_ne (tgt := 48) d_Wi_hoursKept_41 (by decide) (fun hc41 => ?_) (fun hc41 => ?_)
        · replace h := ite_f hc41 h
          refine V.iconst (v := 0) d_Wi_hoursKept_48 (by decide) ?_
          exact V.pick [0, 1, 2, 3, 4] rfl (J41_49 _ (Option.some.inj h).symm)
        · replace h := ite_t hc41 h
          refine V.iconst (v := 1) d_Wi_hoursKept_44 (by decide) ?_
          refine V.goto (tgt := 49) d_Wi_hoursKept_45 (by decide) ?_
          exact V.pick [0, 1, 2, 3, 4] rfl (J41_49 _ (Option.some.inj h).symm)
def f_Wi_hoursKept (N : Nat) (σ : Mem) (a2 : Int32) : Option (Int32) :=
  L_Wi_hoursKept_l5 N a2 σ N 0 0
set_option maxHeartbeats 4000000 in
set_option maxRecDepth 20000 in
theorem c_Wi_hoursKept (Z : ZX) {N : Nat} {σ : Mem} {a2 : Int32} {r : Int32} (h : f_Wi_hoursKept N σ a2 = some r) : CI Z 3 m_Wi_hoursKept [rf Z 56, rf Z 33, .int a2] σ r σ := by
  refine Ct.of (by decide +kernel) (Nat.le_of_ble_eq_true rfl) (fun Y => ?_)
  show V (mkB Z) Y m_Wi_hoursKept 3 (QP (mkB Z) Y nC 0 0 (fun v t => v = some (.int r) ∧ t = σ)) 0 0 nC σ 0 [(0, rf Z 56), (1, rf Z 33), (2, .int a2)] []
  unfold f_Wi_hoursKept at h
  refine V.iconst (v := 0) d_Wi_hoursKept_0 (by decide) ?_
  refine V.istore_n (lv' := [(3, .int 0), (0, rf Z 56), (1, rf Z 33), (2, .int a2)]) d_Wi_hoursKept_1 rfl (by decide) rfl ?_
  refine V.iconst (v := 0) d_Wi_hoursKept_2 (by decide) ?_
  refine V.istore (lv' := [(4, .int 0), (3, .int 0), (0, rf Z 56), (1, rf Z 33), (2, .int a2)]) d_Wi_hoursKept_3 (by decide) rfl ?_
  refine V.pick [2, 3, 4, 1, 0] rfl (cL_Wi_hoursKept_l5 Z (Good := fun z => z = _) (fun r5v he => ?_) N _ _ _ h rfl)
  · cases he
    exact ⟨rfl, rfl⟩
abbrev m_Sh_kept : MI := (⟨"ShadeTown", "kept", "(I)I"⟩, prog_1_method_23_code, 2, (Option.some Jvm.ClassFile.FieldType.int))
theorem d_Sh_kept_0 : decode prog_1_method_23_code 0 = .ok (.aload_n 0, 1) := by decide +kernel
theorem d_Sh_kept_1 : decode prog_1_method_23_code 1 = .ok (.getfield 82, 3) := by decide +kernel
theorem d_Sh_kept_4 : decode prog_1_method_23_code 4 = .ok (.iload_n 1, 1) := by decide +kernel
theorem d_Sh_kept_5 : decode prog_1_method_23_code 5 = .ok (.invokevirtual 289, 3) := by decide +kernel
theorem lk_Sh_289 : Cond.methodLink "ShadeTown" 289 ⟨"ShadeTown$Wishes", "isTold", "(I)Z"⟩ ∈ tblG := atG 1117 (by decide +kernel) rfl
theorem d_Sh_kept_26 : decode prog_1_method_23_code 26 = .ok (.iconst (-1), 1) := by decide +kernel
theorem d_Sh_kept_27 : decode prog_1_method_23_code 27 = .ok (.ireturn, 1) := by decide +kernel
theorem d_Sh_kept_11 : decode prog_1_method_23_code 11 = .ok (.aload_n 0, 1) := by decide +kernel
theorem d_Sh_kept_12 : decode prog_1_method_23_code 12 = .ok (.getfield 82, 3) := by decide +kernel
theorem d_Sh_kept_15 : decode prog_1_method_23_code 15 = .ok (.aload_n 0, 1) := by decide +kernel
theorem d_Sh_kept_16 : decode prog_1_method_23_code 16 = .ok (.invokevirtual 181, 3) := by decide +kernel
theorem d_Sh_kept_19 : decode prog_1_method_23_code 19 = .ok (.iload_n 1, 1) := by decide +kernel
theorem d_Sh_kept_20 : decode prog_1_method_23_code 20 = .ok (.invokevirtual 290, 3) := by decide +kernel
theorem k_Wi_hoursKept : MOk m_Wi_hoursKept 2 ∧ IOk m_Wi_hoursKept := ⟨⟨atG 1124 (by decide +kernel) rfl, atG 120 (by decide +kernel) rfl, ⟨by decide, by decide⟩, by decide +kernel, by decide⟩, atG 1122 (by decide +kernel) rfl, atG 1123 (by decide +kernel) rfl⟩
theorem lk_Sh_290 : Cond.methodLink "ShadeTown" 290 ⟨"ShadeTown$Wishes", "hoursKept", "(LShadeTown$Day;I)I"⟩ ∈ tblG := atG 1121 (by decide +kernel) rfl
theorem d_Sh_kept_23 : decode prog_1_method_23_code 23 = .ok (.goto 4, 3) := by decide +kernel
theorem d_Sh_kept_8 : decode prog_1_method_23_code 8 = .ok (.ifCond .eq 18, 3) := by decide +kernel
def f_Sh_kept (N : Nat) (σ : Mem) (a1 : Int32) : Option (Int32 × Mem) :=
  bnd1 (f_Wi_isTold σ a1) fun r5 =>
  if r5 = 0 then
    (some ((-1), σ))
  else
    (bnd1 (f_Sh_today N σ) fun σ16 =>
    bnd1 (f_Wi_hoursKept N σ16 a1) fun r20 =>
    some (r20, σ16))
set_option maxHeartbeats 4000000 in
set_option maxRecDepth 20000 in
theorem c_Sh_kept (Z : ZX) {N : Nat} {σ : Mem} {a1 : Int32} {r : Int32} {σ' : Mem} (h : f_Sh_kept N σ a1 = some (r, σ')) : CI Z 6 m_Sh_kept [rf Z 0, .int a1] σ r σ' := by
  refine Ct.of (by decide +kernel) (Nat.le_of_ble_eq_true rfl) (fun Y => ?_)
  show V (mkB Z) Y m_Sh_kept 6 (QP (mkB Z) Y nC 0 0 (fun v t => v = some (.int r) ∧ t = σ')) 0 0 nC σ 0 [(0, rf Z 0), (1, .int a1)] []
  unfold f_Sh_kept at h
  refine V.aload_n d_Sh_kept_0 rfl 0 rfl ?_
  refine V.getR (r := 56) ok_Sh fl_Sh_82 (by decide) (by decide) ly_0 rfl d_Sh_kept_1 ?_
  refine V.iload_n d_Sh_kept_4 rfl 1 rfl ?_
  obtain ⟨r5, h1, h⟩ := bnd1_e h
  refine V.vI (as := [.int a1]) (st := []) (c_Wi_isTold Z h1) k_Wi_isTold lk_Sh_289 (by decide) rfl (by decide) ly_56 ok_Wi.1 rfl (Nat.le_of_ble_eq_true rfl) d_Sh_kept_5 ?_
  refine V.if_eq (tgt := 26) d_Sh_kept_8 (by decide) (fun hc8 => ?_) (fun hc8 => ?_)
  · replace h := ite_t hc8 h
    refine V.iconst (v := (-1)) d_Sh_kept_26 (by decide) ?_
    cases h
    exact V.iret rfl d_Sh_kept_27 ⟨rfl, rfl⟩
  · replace h := ite_f hc8 h
    refine V.aload_n d_Sh_kept_11 rfl 0 rfl ?_
    refine V.getR (r := 56) ok_Sh fl_Sh_82 (by decide) (by decide) ly_0 rfl d_Sh_kept_12 ?_
    refine V.aload_n d_Sh_kept_15 rfl 0 rfl ?_
    obtain ⟨σ16, h1, h⟩ := bnd1_e h
    refine V.vA (as := []) (st := [rf Z 56]) (c_Sh_today Z h1) k_Sh_today lk_Sh_181 (by decide) rfl (by decide) ly_0 ok_Sh.1 rfl (Nat.le_of_ble_eq_true rfl) d_Sh_kept_16 ?_
    refine V.iload_n d_Sh_kept_19 rfl 1 rfl ?_
    obtain ⟨r20, h1, h⟩ := bnd1_e h
    refine V.vI (as := [rf Z 33, .int a1]) (st := []) (c_Wi_hoursKept Z h1) k_Wi_hoursKept lk_Sh_290 (by decide) rfl (by decide) ly_56 ok_Wi.1 rfl (Nat.le_of_ble_eq_true rfl) d_Sh_kept_20 ?_
    refine V.goto (tgt := 27) d_Sh_kept_23 (by decide) ?_
    cases h
    exact V.iret rfl d_Sh_kept_27 ⟨rfl, rfl⟩
abbrev m_Wi_happiness : MI := (⟨"ShadeTown$Wishes", "happiness", "(LShadeTown$Day;Z)I"⟩, prog_11_method_7_code, 5, (Option.some Jvm.ClassFile.FieldType.int))
theorem d_Wi_happiness_0 : decode prog_11_method_7_code 0 = .ok (.iconst 0, 1) := by decide +kernel
theorem d_Wi_happiness_1 : decode prog_11_method_7_code 1 = .ok (.istore_n 3, 1) := by decide +kernel
theorem d_Wi_happiness_2 : decode prog_11_method_7_code 2 = .ok (.iconst 0, 1) := by decide +kernel
theorem d_Wi_happiness_3 : decode prog_11_method_7_code 3 = .ok (.istore 4, 2) := by decide +kernel
theorem d_Wi_happiness_5 : decode prog_11_method_7_code 5 = .ok (.iload 4, 2) := by decide +kernel
theorem d_Wi_happiness_7 : decode prog_11_method_7_code 7 = .ok (.bipush 16, 2) := by decide +kernel
theorem d_Wi_happiness_56 : decode prog_11_method_7_code 56 = .ok (.iload_n 3, 1) := by decide +kernel
theorem d_Wi_happiness_57 : decode prog_11_method_7_code 57 = .ok (.ireturn, 1) := by decide +kernel
theorem d_Wi_happiness_12 : decode prog_11_method_7_code 12 = .ok (.aload_n 0, 1) := by decide +kernel
theorem d_Wi_happiness_13 : decode prog_11_method_7_code 13 = .ok (.iload 4, 2) := by decide +kernel
theorem d_Wi_happiness_15 : decode prog_11_method_7_code 15 = .ok (.invokevirtual 49, 3) := by decide +kernel
theorem d_Wi_happiness_21 : decode prog_11_method_7_code 21 = .ok (.aload_n 0, 1) := by decide +kernel
theorem d_Wi_happiness_22 : decode prog_11_method_7_code 22 = .ok (.getfield 25, 3) := by decide +kernel
theorem d_Wi_happiness_25 : decode prog_11_method_7_code 25 = .ok (.iload 4, 2) := by decide +kernel
theorem d_Wi_happiness_27 : decode prog_11_method_7_code 27 = .ok (.baload, 1) := by decide +kernel
theorem d_Wi_happiness_28 : decode prog_11_method_7_code 28 = .ok (.iload_n 2, 1) := by decide +kernel
theorem d_Wi_happiness_32 : decode prog_11_method_7_code 32 = .ok (.iload_n 3, 1) := by decide +kernel
theorem d_Wi_happiness_33 : decode prog_11_method_7_code 33 = .ok (.aload_n 0, 1) := by decide +kernel
theorem d_Wi_happiness_34 : decode prog_11_method_7_code 34 = .ok (.getfield 29, 3) := by decide +kernel
theorem d_Wi_happiness_37 : decode prog_11_method_7_code 37 = .ok (.iload 4, 2) := by decide +kernel
theorem d_Wi_happiness_39 : decode prog_11_method_7_code 39 = .ok (.iaload, 1) := by decide +kernel
theorem d_Wi_happiness_40 : decode prog_11_method_7_code 40 = .ok (.aload_n 0, 1) := by decide +kernel
theorem d_Wi_happiness_41 : decode prog_11_method_7_code 41 = .ok (.aload_n 1, 1) := by decide +kernel
theorem d_Wi_happiness_42 : decode prog_11_method_7_code 42 = .ok (.iload 4, 2) := by decide +kernel
theorem d_Wi_happiness_44 : decode prog_11_method_7_code 44 = .ok (.invokevirtual 52, 3) := by decide +kernel
theorem lk_Wi_52 : Cond.methodLink "ShadeTown$Wishes" 52 ⟨"ShadeTown$Wishes", "hoursKept", "(LShadeTown$Day;I)I"⟩ ∈ tblG := atG 1141 (by decide +kernel) rfl
theorem d_Wi_happiness_47 : decode prog_11_method_7_code 47 = .ok (.imul, 1) := by decide +kernel
theorem d_Wi_happiness_48 : decode prog_11_method_7_code 48 = .ok (.iadd, 1) := by decide +kernel
theorem d_Wi_happiness_49 : decode prog_11_method_7_code 49 = .ok (.istore_n 3, 1) := by decide +kernel
theorem d_Wi_happiness_29 : decode prog_11_method_7_code 29 = .ok (.if_icmp .ne 21, 3) := by decide +kernel
theorem d_Wi_happiness_18 : decode prog_11_method_7_code 18 = .ok (.ifCond .eq 32, 3) := by decide +kernel
theorem d_Wi_happiness_50 : decode prog_11_method_7_code 50 = .ok (.iinc 4 1, 3) := by decide +kernel
theorem d_Wi_happiness_53 : decode prog_11_method_7_code 53 = .ok (.goto (-48), 3) := by decide +kernel
theorem d_Wi_happiness_9 : decode prog_11_method_7_code 9 = .ok (.if_icmp .ge 47, 3) := by decide +kernel
def B_Wi_happiness_l5 (N : Nat) (a2 : Int32) (σ : Mem) (rec : Int32 → Int32 → Option (Int32)) (x3 : Int32) (x4 : Int32) : Option (Int32) :=
  if 16 ≤ x4 then
    (some x3)
  else
    (bnd1 (f_Wi_isTold σ x4) fun r15 =>
    bnd1 ((
      if r15 = 0 then
        (some x3)
      else
        (grd (inb x4 16) <|
        if (mI σ 60 (x4.toNatClampNeg)) = a2 then
          (grd (inb x4 16) <|
          bnd1 (f_Wi_hoursKept N σ x4) fun r44 =>
          letv (x3 + ((mI σ 61 (x4.toNatClampNeg)) * r44)) fun v49 =>
          some v49)
        else
          (some x3))) : Option (Int32)) fun y18_3 =>
    letv (x4 + 1) fun v50 =>
    rec y18_3 v50)
def L_Wi_happiness_l5 (N : Nat) (a2 : Int32) (σ : Mem) : Nat → Int32 → Int32 → Option (Int32)
  | 0, _, _ => none
  | k + 1, x3, x4 => B_Wi_happiness_l5 N a2 σ (L_Wi_happiness_l5 N a2 σ k) x3 x4
set_option maxHeartbeats 4000000 in
set_option maxRecDepth 20000 in
theorem cL_Wi_happiness_l5 (Z : ZX) {Y : YX} {post : Option Value → Mem → Prop} {N : Nat} {a2 : Int32} {σ : Mem} {Good : Int32 → Prop} (hR : ∀ (v : Int32), Good v → post (some (.int v)) σ) : ∀ (k : Nat) (x3 : Int32) (x4 : Int32) (res : Int32), L_Wi_happiness_l5 N a2 σ k x3 x4 = some res → Good res → V (mkB Z) Y m_Wi_happiness 4 (QP (mkB Z) Y nC 0 0 post) 0 0 nC σ 5 [(0, rf Z 56), (1, rf Z 33), (2, .int a2), (3, .int x3), (4, .int x4)] [] := by
  intro k
  induction k with
  | zero => intro x3 x4 res h; cases h
  | succ k ih =>
    intro x3 x4 res h hg
    replace h : B_Wi_happiness_l5 N a2 σ (L_Wi_happiness_l5 N a2 σ k) x3 x4 = some res := h
    unfold B_Wi_happiness_l5 at h
    refine V.iload d_Wi_happiness_5 4 rfl ?_
    refine V.bipush (v := 16) d_Wi_happiness_7 (by decide) ?_
    refine V.icmp_ge (tgt := 56) d_Wi_happiness_9 (by decide) (fun hc9 => ?_) (fun hc9 => ?_)
    · replace h := ite_t hc9 h
      refine V.iload_n d_Wi_happiness_56 rfl 3 rfl ?_
      cases h
      exact V.iret rfl d_Wi_happiness_57 (hR _ hg)
    · replace h := ite_f hc9 h
      refine V.aload_n d_Wi_happiness_12 rfl 0 rfl ?_
      refine V.iload d_Wi_happiness_13 4 rfl ?_
      obtain ⟨r15, h1, h⟩ := bnd1_e h
      refine V.vI (as := [.int x4]) (st := []) (c_Wi_isTold Z h1) k_Wi_isTold lk_Wi_49 (by decide) rfl (by decide) ly_56 ok_Wi.1 rfl (Nat.le_of_ble_eq_true rfl) d_Wi_happiness_15 ?_
      obtain ⟨s18, h1, h⟩ := bnd1_e h
      have J18_50 : ∀ (y18_3 : Int32), s18 = y18_3 → V (mkB Z) Y m_Wi_happiness 4 (QP (mkB Z) Y nC 0 0 post) 0 0 nC σ 50 [(0, rf Z 56), (1, rf Z 33), (2, .int a2), (3, .int y18_3), (4, .int x4)] [] := by
        intro y18_3 he
        rw [he] at h
        obtain ⟨v50, e_v50, h⟩ := letv_e h
        refine V.iinc (v := v50) (lv' := [(4, .int v50), (0, rf Z 56), (1, rf Z 33), (2, .int a2), (3, .int y18_3)]) d_Wi_happiness_50 4 rfl (by rw [e_v50]; rfl) (by decide) rfl ?_
        refine V.goto (tgt := 5) d_Wi_happiness_53 (by decide) ?_
        exact V.pick [1, 2, 3, 4, 0] rfl (ih _ _ _ h hg)
      replace h := h1
      refine V.if_eq (tgt := 50) d_Wi_happiness_18 (by decide) (fun hc18 => ?_) (fun hc18 => ?_)
      · replace h := ite_t hc18 h
        exact V.pick [0, 1, 2, 3, 4] rfl (J18_50 _ (Option.some.inj h).symm)
      · replace h := ite_f hc18 h
        refine V.aload_n d_Wi_happiness_21 rfl 0 rfl ?_
        refine V.getR (r := 60) ok_Wi fl_Wi_25 (by decide) (by decide) ly_56 rfl d_Wi_happiness_22 ?_
        refine V.iload d_Wi_happiness_25 4 rfl ?_
        obtain ⟨gq, h⟩ := grd_e h
        refine V.rz (by decide) ly_60 (inb_e gq) rfl d_Wi_happiness_27 ?_
        refine V.iload_n d_Wi_happiness_28 rfl 2 rfl ?_
        refine V.icmp_ne (tgt := 50) d_Wi_happiness_29 (by decide) (fun hc29 => ?_) (fun hc29 => ?_)
        · replace h := ite_f hc29 h
          exact V.pick [0, 1, 2, 3, 4] rfl (J18_50 _ (Option.some.inj h).symm)
        · replace h := ite_t hc29 h
          refine V.iload_n d_Wi_happiness_32 rfl 3 rfl ?_
          refine V.aload_n d_Wi_happiness_33 rfl 0 rfl ?_
          refine V.getR (r := 61) ok_Wi fl_Wi_29 (by decide) (by decide) ly_56 rfl d_Wi_happiness_34 ?_
          refine V.iload d_Wi_happiness_37 4 rfl ?_
          obtain ⟨gq, h⟩ := grd_e h
          refine V.ra (by decide) ly_61 (inb_e gq) rfl d_Wi_happiness_39 ?_
          refine V.aload_n d_Wi_happiness_40 rfl 0 rfl ?_
          refine V.aload_n d_Wi_happiness_41 rfl 1 rfl ?_
          refine V.iload d_Wi_happiness_42 4 rfl ?_
          obtain ⟨r44, h1, h⟩ := bnd1_e h
          refine V.vI (as := [rf Z 33, .int x4]) (st := [.int (mI σ 61 (x4.toNatClampNeg)), .int x3]) (c_Wi_hoursKept Z h1) k_Wi_hoursKept lk_Wi_52 (by decide) rfl (by decide) ly_56 ok_Wi.1 rfl (Nat.le_of_ble_eq_true rfl) d_Wi_happiness_44 ?_
          refine V.imul d_Wi_happiness_47 ?_
          refine V.iadd d_Wi_happiness_48 ?_
          obtain ⟨v49, e_v49, h⟩ := letv_e h
          refine V.topI e_v49 ?_
          refine V.istore_n (lv' := [(3, .int v49), (0, rf Z 56), (1, rf Z 33), (2, .int a2), (4, .int x4)]) d_Wi_happiness_49 rfl (by decide) rfl ?_
          exact V.pick [1, 2, 3, 0, 4] rfl (J18_50 _ (Option.some.inj h).symm)
def f_Wi_happiness (N : Nat) (σ : Mem) (a2 : Int32) : Option (Int32) :=
  L_Wi_happiness_l5 N a2 σ N 0 0
set_option maxHeartbeats 4000000 in
set_option maxRecDepth 20000 in
theorem c_Wi_happiness (Z : ZX) {N : Nat} {σ : Mem} {a2 : Int32} {r : Int32} (h : f_Wi_happiness N σ a2 = some r) : CI Z 4 m_Wi_happiness [rf Z 56, rf Z 33, .int a2] σ r σ := by
  refine Ct.of (by decide +kernel) (Nat.le_of_ble_eq_true rfl) (fun Y => ?_)
  show V (mkB Z) Y m_Wi_happiness 4 (QP (mkB Z) Y nC 0 0 (fun v t => v = some (.int r) ∧ t = σ)) 0 0 nC σ 0 [(0, rf Z 56), (1, rf Z 33), (2, .int a2)] []
  unfold f_Wi_happiness at h
  refine V.iconst (v := 0) d_Wi_happiness_0 (by decide) ?_
  refine V.istore_n (lv' := [(3, .int 0), (0, rf Z 56), (1, rf Z 33), (2, .int a2)]) d_Wi_happiness_1 rfl (by decide) rfl ?_
  refine V.iconst (v := 0) d_Wi_happiness_2 (by decide) ?_
  refine V.istore (lv' := [(4, .int 0), (3, .int 0), (0, rf Z 56), (1, rf Z 33), (2, .int a2)]) d_Wi_happiness_3 (by decide) rfl ?_
  refine V.pick [2, 3, 4, 1, 0] rfl (cL_Wi_happiness_l5 Z (Good := fun z => z = _) (fun r5v he => ?_) N _ _ _ h rfl)
  · cases he
    exact ⟨rfl, rfl⟩
abbrev m_Sh_happy : MI := (⟨"ShadeTown", "happy", "()I"⟩, prog_1_method_24_code, 2, (Option.some Jvm.ClassFile.FieldType.int))
theorem d_Sh_happy_0 : decode prog_1_method_24_code 0 = .ok (.aload_n 0, 1) := by decide +kernel
theorem d_Sh_happy_1 : decode prog_1_method_24_code 1 = .ok (.invokevirtual 181, 3) := by decide +kernel
theorem d_Sh_happy_4 : decode prog_1_method_24_code 4 = .ok (.astore_n 1, 1) := by decide +kernel
theorem d_Sh_happy_5 : decode prog_1_method_24_code 5 = .ok (.aload_n 0, 1) := by decide +kernel
theorem d_Sh_happy_6 : decode prog_1_method_24_code 6 = .ok (.getfield 82, 3) := by decide +kernel
theorem d_Sh_happy_9 : decode prog_1_method_24_code 9 = .ok (.aload_n 1, 1) := by decide +kernel
theorem d_Sh_happy_10 : decode prog_1_method_24_code 10 = .ok (.iconst 1, 1) := by decide +kernel
theorem d_Sh_happy_11 : decode prog_1_method_24_code 11 = .ok (.invokevirtual 294, 3) := by decide +kernel
theorem k_Wi_happiness : MOk m_Wi_happiness 2 ∧ IOk m_Wi_happiness := ⟨⟨atG 1140 (by decide +kernel) rfl, atG 120 (by decide +kernel) rfl, ⟨by decide, by decide⟩, by decide +kernel, by decide⟩, atG 1138 (by decide +kernel) rfl, atG 1139 (by decide +kernel) rfl⟩
theorem lk_Sh_294 : Cond.methodLink "ShadeTown" 294 ⟨"ShadeTown$Wishes", "happiness", "(LShadeTown$Day;Z)I"⟩ ∈ tblG := atG 1137 (by decide +kernel) rfl
theorem d_Sh_happy_14 : decode prog_1_method_24_code 14 = .ok (.aload_n 0, 1) := by decide +kernel
theorem d_Sh_happy_15 : decode prog_1_method_24_code 15 = .ok (.getfield 82, 3) := by decide +kernel
theorem d_Sh_happy_18 : decode prog_1_method_24_code 18 = .ok (.aload_n 1, 1) := by decide +kernel
theorem d_Sh_happy_19 : decode prog_1_method_24_code 19 = .ok (.iconst 0, 1) := by decide +kernel
theorem d_Sh_happy_20 : decode prog_1_method_24_code 20 = .ok (.invokevirtual 294, 3) := by decide +kernel
theorem d_Sh_happy_23 : decode prog_1_method_24_code 23 = .ok (.iadd, 1) := by decide +kernel
theorem d_Sh_happy_24 : decode prog_1_method_24_code 24 = .ok (.ireturn, 1) := by decide +kernel
def f_Sh_happy (N : Nat) (σ : Mem) : Option (Int32 × Mem) :=
  bnd1 (f_Sh_today N σ) fun σ1 =>
  bnd1 (f_Wi_happiness N σ1 1) fun r11 =>
  bnd1 (f_Wi_happiness N σ1 0) fun r20 =>
  some (r11 + r20, σ1)
set_option maxHeartbeats 4000000 in
set_option maxRecDepth 20000 in
theorem c_Sh_happy (Z : ZX) {N : Nat} {σ : Mem} {r : Int32} {σ' : Mem} (h : f_Sh_happy N σ = some (r, σ')) : CI Z 6 m_Sh_happy [rf Z 0] σ r σ' := by
  refine Ct.of (by decide +kernel) (Nat.le_of_ble_eq_true rfl) (fun Y => ?_)
  show V (mkB Z) Y m_Sh_happy 6 (QP (mkB Z) Y nC 0 0 (fun v t => v = some (.int r) ∧ t = σ')) 0 0 nC σ 0 [(0, rf Z 0)] []
  unfold f_Sh_happy at h
  refine V.aload_n d_Sh_happy_0 rfl 0 rfl ?_
  obtain ⟨σ1, h1, h⟩ := bnd1_e h
  refine V.vA (as := []) (st := []) (c_Sh_today Z h1) k_Sh_today lk_Sh_181 (by decide) rfl (by decide) ly_0 ok_Sh.1 rfl (Nat.le_of_ble_eq_true rfl) d_Sh_happy_1 ?_
  refine V.astore_n (lv' := [(1, rf Z 33), (0, rf Z 0)]) d_Sh_happy_4 rfl (by decide) rfl ?_
  refine V.aload_n d_Sh_happy_5 rfl 1 rfl ?_
  refine V.getR (r := 56) ok_Sh fl_Sh_82 (by decide) (by decide) ly_0 rfl d_Sh_happy_6 ?_
  refine V.aload_n d_Sh_happy_9 rfl 0 rfl ?_
  refine V.iconst (v := 1) d_Sh_happy_10 (by decide) ?_
  obtain ⟨r11, h1, h⟩ := bnd1_e h
  refine V.vI (as := [rf Z 33, .int 1]) (st := []) (c_Wi_happiness Z h1) k_Wi_happiness lk_Sh_294 (by decide) rfl (by decide) ly_56 ok_Wi.1 rfl (Nat.le_of_ble_eq_true rfl) d_Sh_happy_11 ?_
  refine V.aload_n d_Sh_happy_14 rfl 1 rfl ?_
  refine V.getR (r := 56) ok_Sh fl_Sh_82 (by decide) (by decide) ly_0 rfl d_Sh_happy_15 ?_
  refine V.aload_n d_Sh_happy_18 rfl 0 rfl ?_
  refine V.iconst (v := 0) d_Sh_happy_19 (by decide) ?_
  obtain ⟨r20, h1, h⟩ := bnd1_e h
  refine V.vI (as := [rf Z 33, .int 0]) (st := [.int r11]) (c_Wi_happiness Z h1) k_Wi_happiness lk_Sh_294 (by decide) rfl (by decide) ly_56 ok_Wi.1 rfl (Nat.le_of_ble_eq_true rfl) d_Sh_happy_20 ?_
  refine V.iadd d_Sh_happy_23 ?_
  cases h
  exact V.iret rfl d_Sh_happy_24 ⟨rfl, rfl⟩
abbrev m_To_trial : MI := (⟨"ShadeTown$Town", "trial", "(III)V"⟩, prog_9_method_11_code, 4, (Option.none : Option Jvm.ClassFile.FieldType))
theorem d_To_trial_0 : decode prog_9_method_11_code 0 = .ok (.aload_n 0, 1) := by decide +kernel
theorem d_To_trial_1 : decode prog_9_method_11_code 1 = .ok (.iload_n 1, 1) := by decide +kernel
theorem d_To_trial_2 : decode prog_9_method_11_code 2 = .ok (.invokevirtual 49, 3) := by decide +kernel
theorem d_To_trial_50 : decode prog_9_method_11_code 50 = .ok (.return_, 1) := by decide +kernel
theorem d_To_trial_8 : decode prog_9_method_11_code 8 = .ok (.aload_n 0, 1) := by decide +kernel
theorem d_To_trial_9 : decode prog_9_method_11_code 9 = .ok (.getfield 11, 3) := by decide +kernel
theorem d_To_trial_12 : decode prog_9_method_11_code 12 = .ok (.bipush 16, 2) := by decide +kernel
theorem d_To_trial_14 : decode prog_9_method_11_code 14 = .ok (.aload_n 0, 1) := by decide +kernel
theorem d_To_trial_15 : decode prog_9_method_11_code 15 = .ok (.getfield 11, 3) := by decide +kernel
theorem d_To_trial_18 : decode prog_9_method_11_code 18 = .ok (.iload_n 1, 1) := by decide +kernel
theorem d_To_trial_19 : decode prog_9_method_11_code 19 = .ok (.iaload, 1) := by decide +kernel
theorem d_To_trial_20 : decode prog_9_method_11_code 20 = .ok (.iastore, 1) := by decide +kernel
theorem d_To_trial_21 : decode prog_9_method_11_code 21 = .ok (.aload_n 0, 1) := by decide +kernel
theorem d_To_trial_22 : decode prog_9_method_11_code 22 = .ok (.getfield 21, 3) := by decide +kernel
theorem d_To_trial_25 : decode prog_9_method_11_code 25 = .ok (.bipush 16, 2) := by decide +kernel
theorem d_To_trial_27 : decode prog_9_method_11_code 27 = .ok (.aload_n 0, 1) := by decide +kernel
theorem d_To_trial_28 : decode prog_9_method_11_code 28 = .ok (.getfield 21, 3) := by decide +kernel
theorem d_To_trial_31 : decode prog_9_method_11_code 31 = .ok (.iload_n 1, 1) := by decide +kernel
theorem d_To_trial_32 : decode prog_9_method_11_code 32 = .ok (.iaload, 1) := by decide +kernel
theorem d_To_trial_33 : decode prog_9_method_11_code 33 = .ok (.iastore, 1) := by decide +kernel
theorem d_To_trial_34 : decode prog_9_method_11_code 34 = .ok (.aload_n 0, 1) := by decide +kernel
theorem d_To_trial_35 : decode prog_9_method_11_code 35 = .ok (.getfield 15, 3) := by decide +kernel
theorem d_To_trial_38 : decode prog_9_method_11_code 38 = .ok (.bipush 16, 2) := by decide +kernel
theorem d_To_trial_40 : decode prog_9_method_11_code 40 = .ok (.iload_n 2, 1) := by decide +kernel
theorem d_To_trial_41 : decode prog_9_method_11_code 41 = .ok (.iastore, 1) := by decide +kernel
theorem d_To_trial_42 : decode prog_9_method_11_code 42 = .ok (.aload_n 0, 1) := by decide +kernel
theorem d_To_trial_43 : decode prog_9_method_11_code 43 = .ok (.getfield 18, 3) := by decide +kernel
theorem d_To_trial_46 : decode prog_9_method_11_code 46 = .ok (.bipush 16, 2) := by decide +kernel
theorem d_To_trial_48 : decode prog_9_method_11_code 48 = .ok (.iload_n 3, 1) := by decide +kernel
theorem d_To_trial_49 : decode prog_9_method_11_code 49 = .ok (.iastore, 1) := by decide +kernel
theorem d_To_trial_5 : decode prog_9_method_11_code 5 = .ok (.ifCond .eq 45, 3) := by decide +kernel
def f_To_trial (σ : Mem) (a1 : Int32) (a2 : Int32) (a3 : Int32) : Option (Mem) :=
  bnd1 (f_To_isCaster σ a1) fun r2 =>
  if r2 = 0 then
    (some σ)
  else
    (grd (inb a1 17) <|
    letv (sI σ 20 16 (mI σ 20 (a1.toNatClampNeg))) fun σ20 =>
    grd (inb a1 17) <|
    letv (sI σ20 23 16 (mI σ20 23 (a1.toNatClampNeg))) fun σ33 =>
    letv (sI σ33 21 16 a2) fun σ41 =>
    letv (sI σ41 22 16 a3) fun σ49 =>
    some σ49)
set_option maxHeartbeats 4000000 in
set_option maxRecDepth 20000 in
theorem c_To_trial (Z : ZX) {σ : Mem} {a1 : Int32} {a2 : Int32} {a3 : Int32} {σ' : Mem} (h : f_To_trial σ a1 a2 a3 = some σ') : CN Z 1 m_To_trial [rf Z 19, .int a1, .int a2, .int a3] σ σ' := by
  refine Ct.of (by decide +kernel) (Nat.le_of_ble_eq_true rfl) (fun Y => ?_)
  show V (mkB Z) Y m_To_trial 1 (QP (mkB Z) Y nC 0 0 (fun v t => v = none ∧ t = σ')) 0 0 nC σ 0 [(0, rf Z 19), (1, .int a1), (2, .int a2), (3, .int a3)] []
  unfold f_To_trial at h
  refine V.aload_n d_To_trial_0 rfl 0 rfl ?_
  refine V.iload_n d_To_trial_1 rfl 1 rfl ?_
  obtain ⟨r2, h1, h⟩ := bnd1_e h
  refine V.vI (as := [.int a1]) (st := []) (c_To_isCaster Z h1) k_To_isCaster lk_To_49 (by decide) rfl (by decide) ly_19 ok_To.1 rfl (Nat.le_of_ble_eq_true rfl) d_To_trial_2 ?_
  refine V.if_eq (tgt := 50) d_To_trial_5 (by decide) (fun hc5 => ?_) (fun hc5 => ?_)
  · replace h := ite_t hc5 h
    cases h
    exact V.vret rfl d_To_trial_50 ⟨rfl, rfl⟩
  · replace h := ite_f hc5 h
    refine V.aload_n d_To_trial_8 rfl 0 rfl ?_
    refine V.getR (r := 20) ok_To fl_To_11 (by decide) (by decide) ly_19 rfl d_To_trial_9 ?_
    refine V.bipush (v := 16) d_To_trial_12 (by decide) ?_
    refine V.aload_n d_To_trial_14 rfl 0 rfl ?_
    refine V.getR (r := 20) ok_To fl_To_11 (by decide) (by decide) ly_19 rfl d_To_trial_15 ?_
    refine V.iload_n d_To_trial_18 rfl 1 rfl ?_
    obtain ⟨gq, h⟩ := grd_e h
    refine V.ra (by decide) ly_20 (inb_e gq) rfl d_To_trial_19 ?_
    obtain ⟨σ20, e_σ20, h⟩ := letv_e h
    refine V.wa (j := 16) (by decide) ly_20 (inb_e (by decide)) (by decide) d_To_trial_20 e_σ20 ?_
    refine V.aload_n d_To_trial_21 rfl 0 rfl ?_
    refine V.getR (r := 23) ok_To fl_To_21 (by decide) (by decide) ly_19 rfl d_To_trial_22 ?_
    refine V.bipush (v := 16) d_To_trial_25 (by decide) ?_
    refine V.aload_n d_To_trial_27 rfl 0 rfl ?_
    refine V.getR (r := 23) ok_To fl_To_21 (by decide) (by decide) ly_19 rfl d_To_trial_28 ?_
    refine V.iload_n d_To_trial_31 rfl 1 rfl ?_
    obtain ⟨gq, h⟩ := grd_e h
    refine V.ra (by decide) ly_23 (inb_e gq) rfl d_To_trial_32 ?_
    obtain ⟨σ33, e_σ33, h⟩ := letv_e h
    refine V.wa (j := 16) (by decide) ly_23 (inb_e (by decide)) (by decide) d_To_trial_33 e_σ33 ?_
    refine V.aload_n d_To_trial_34 rfl 0 rfl ?_
    refine V.getR (r := 21) ok_To fl_To_15 (by decide) (by decide) ly_19 rfl d_To_trial_35 ?_
    refine V.bipush (v := 16) d_To_trial_38 (by decide) ?_
    refine V.iload_n d_To_trial_40 rfl 2 rfl ?_
    obtain ⟨σ41, e_σ41, h⟩ := letv_e h
    refine V.wa (j := 16) (by decide) ly_21 (inb_e (by decide)) (by decide) d_To_trial_41 e_σ41 ?_
    refine V.aload_n d_To_trial_42 rfl 0 rfl ?_
    refine V.getR (r := 22) ok_To fl_To_18 (by decide) (by decide) ly_19 rfl d_To_trial_43 ?_
    refine V.bipush (v := 16) d_To_trial_46 (by decide) ?_
    refine V.iload_n d_To_trial_48 rfl 3 rfl ?_
    obtain ⟨σ49, e_σ49, h⟩ := letv_e h
    refine V.wa (j := 16) (by decide) ly_22 (inb_e (by decide)) (by decide) d_To_trial_49 e_σ49 ?_
    cases h
    exact V.vret rfl d_To_trial_50 ⟨rfl, rfl⟩
abbrev m_Da_layTrial : MI := (⟨"ShadeTown$Day", "layTrial", "(I)V"⟩, prog_3_method_20_code, 2, (Option.none : Option Jvm.ClassFile.FieldType))
theorem d_Da_layTrial_0 : decode prog_3_method_20_code 0 = .ok (.aload_n 0, 1) := by decide +kernel
theorem fl_Da_38 : FL "ShadeTown$Day" 38 T_Da 10 := atG 282 (by decide +kernel) rfl
theorem d_Da_layTrial_1 : decode prog_3_method_20_code 1 = .ok (.getfield 38, 3) := by decide +kernel
theorem d_Da_layTrial_4 : decode prog_3_method_20_code 4 = .ok (.iconst 0, 1) := by decide +kernel
theorem d_Da_layTrial_5 : decode prog_3_method_20_code 5 = .ok (.invokestatic 97, 3) := by decide +kernel
theorem d_Da_layTrial_8 : decode prog_3_method_20_code 8 = .ok (.aload_n 0, 1) := by decide +kernel
theorem d_Da_layTrial_9 : decode prog_3_method_20_code 9 = .ok (.iload_n 1, 1) := by decide +kernel
theorem d_Da_layTrial_10 : decode prog_3_method_20_code 10 = .ok (.invokevirtual 103, 3) := by decide +kernel
theorem lk_Da_103 : Cond.methodLink "ShadeTown$Day" 103 ⟨"ShadeTown$Day", "isUp", "(I)Z"⟩ ∈ tblG := atG 1160 (by decide +kernel) rfl
theorem d_Da_layTrial_29 : decode prog_3_method_20_code 29 = .ok (.return_, 1) := by decide +kernel
theorem d_Da_layTrial_16 : decode prog_3_method_20_code 16 = .ok (.aload_n 0, 1) := by decide +kernel
theorem d_Da_layTrial_17 : decode prog_3_method_20_code 17 = .ok (.bipush 16, 2) := by decide +kernel
theorem d_Da_layTrial_19 : decode prog_3_method_20_code 19 = .ok (.iload_n 1, 1) := by decide +kernel
theorem d_Da_layTrial_20 : decode prog_3_method_20_code 20 = .ok (.aload_n 0, 1) := by decide +kernel
theorem d_Da_layTrial_21 : decode prog_3_method_20_code 21 = .ok (.getfield 38, 3) := by decide +kernel
theorem d_Da_layTrial_24 : decode prog_3_method_20_code 24 = .ok (.iconst 0, 1) := by decide +kernel
theorem d_Da_layTrial_25 : decode prog_3_method_20_code 25 = .ok (.iconst 1, 1) := by decide +kernel
theorem d_Da_layTrial_26 : decode prog_3_method_20_code 26 = .ok (.invokevirtual 106, 3) := by decide +kernel
theorem d_Da_layTrial_13 : decode prog_3_method_20_code 13 = .ok (.ifCond .eq 16, 3) := by decide +kernel
def f_Da_layTrial (N : Nat) (σ : Mem) (a1 : Int32) : Option (Mem) :=
  bnd1 (f_JA_fill_53178 N σ 40 144 0) fun σ5 =>
  bnd1 (f_Da_isUp σ5 a1) fun r10 =>
  if r10 = 0 then
    (some σ5)
  else
    (bnd1 (f_Da_spread N σ5 16 a1 40 144 0 1) fun σ26 =>
    some σ26)
set_option maxHeartbeats 4000000 in
set_option maxRecDepth 20000 in
theorem c_Da_layTrial (Z : ZX) {N : Nat} {σ : Mem} {a1 : Int32} {σ' : Mem} (h : f_Da_layTrial N σ a1 = some σ') : CN Z 3 m_Da_layTrial [rf Z 33, .int a1] σ σ' := by
  refine Ct.of (by decide +kernel) (Nat.le_of_ble_eq_true rfl) (fun Y => ?_)
  show V (mkB Z) Y m_Da_layTrial 3 (QP (mkB Z) Y nC 0 0 (fun v t => v = none ∧ t = σ')) 0 0 nC σ 0 [(0, rf Z 33), (1, .int a1)] []
  unfold f_Da_layTrial at h
  refine V.aload_n d_Da_layTrial_0 rfl 0 rfl ?_
  refine V.getR (r := 40) ok_Da fl_Da_38 (by decide) (by decide) ly_33 rfl d_Da_layTrial_1 ?_
  refine V.iconst (v := 0) d_Da_layTrial_4 (by decide) ?_
  obtain ⟨σ5, h1, h⟩ := bnd1_e h
  refine V.sN (as := [rf Z 40, .int 0]) (st := []) (c_JA_fill_53178 Z (by decide) ly_40 h1) k_JA_fill_53178 lk_Da_97 (by decide) rfl rfl (Nat.le_of_ble_eq_true rfl) d_Da_layTrial_5 ?_
  refine V.aload_n d_Da_layTrial_8 rfl 0 rfl ?_
  refine V.iload_n d_Da_layTrial_9 rfl 1 rfl ?_
  obtain ⟨r10, h1, h⟩ := bnd1_e h
  refine V.vI (as := [.int a1]) (st := []) (c_Da_isUp Z h1) k_Da_isUp lk_Da_103 (by decide) rfl (by decide) ly_33 ok_Da.1 rfl (Nat.le_of_ble_eq_true rfl) d_Da_layTrial_10 ?_
  refine V.if_eq (tgt := 29) d_Da_layTrial_13 (by decide) (fun hc13 => ?_) (fun hc13 => ?_)
  · replace h := ite_t hc13 h
    cases h
    exact V.vret rfl d_Da_layTrial_29 ⟨rfl, rfl⟩
  · replace h := ite_f hc13 h
    refine V.aload_n d_Da_layTrial_16 rfl 0 rfl ?_
    refine V.bipush (v := 16) d_Da_layTrial_17 (by decide) ?_
    refine V.iload_n d_Da_layTrial_19 rfl 1 rfl ?_
    refine V.aload_n d_Da_layTrial_20 rfl 0 rfl ?_
    refine V.getR (r := 40) ok_Da fl_Da_38 (by decide) (by decide) ly_33 rfl d_Da_layTrial_21 ?_
    refine V.iconst (v := 0) d_Da_layTrial_24 (by decide) ?_
    refine V.iconst (v := 1) d_Da_layTrial_25 (by decide) ?_
    obtain ⟨σ26, h1, h⟩ := bnd1_e h
    refine V.vN (as := [.int 16, .int a1, rf Z 40, .int 0, .int 1]) (st := []) (c_Da_spread Z (by decide) ly_40 h1) k_Da_spread lk_Da_106 (by decide) rfl (by decide) ly_33 ok_Da.1 rfl (Nat.le_of_ble_eq_true rfl) d_Da_layTrial_26 ?_
    cases h
    exact V.vret rfl d_Da_layTrial_29 ⟨rfl, rfl⟩
abbrev m_Da_isShadedOnTrial : MI := (⟨"ShadeTown$Day", "isShadedOnTrial", "(III)Z"⟩, prog_3_method_21_code, 4, (Option.some Jvm.ClassFile.FieldType.boolean))
theorem d_Da_isShadedOnTrial_0 : decode prog_3_method_21_code 0 = .ok (.aload_n 0, 1) := by decide +kernel
theorem d_Da_isShadedOnTrial_1 : decode prog_3_method_21_code 1 = .ok (.iload_n 3, 1) := by decide +kernel
theorem d_Da_isShadedOnTrial_2 : decode prog_3_method_21_code 2 = .ok (.invokevirtual 59, 3) := by decide +kernel
theorem d_Da_isShadedOnTrial_10 : decode prog_3_method_21_code 10 = .ok (.aload_n 0, 1) := by decide +kernel
theorem d_Da_isShadedOnTrial_11 : decode prog_3_method_21_code 11 = .ok (.iload_n 2, 1) := by decide +kernel
theorem d_Da_isShadedOnTrial_12 : decode prog_3_method_21_code 12 = .ok (.iload_n 3, 1) := by decide +kernel
theorem d_Da_isShadedOnTrial_13 : decode prog_3_method_21_code 13 = .ok (.invokevirtual 62, 3) := by decide +kernel
theorem d_Da_isShadedOnTrial_16 : decode prog_3_method_21_code 16 = .ok (.iconst 1, 1) := by decide +kernel
theorem d_Da_isShadedOnTrial_17 : decode prog_3_method_21_code 17 = .ok (.iload_n 1, 1) := by decide +kernel
theorem d_Da_isShadedOnTrial_18 : decode prog_3_method_21_code 18 = .ok (.ishl, 1) := by decide +kernel
theorem d_Da_isShadedOnTrial_19 : decode prog_3_method_21_code 19 = .ok (.iconst (-1), 1) := by decide +kernel
theorem d_Da_isShadedOnTrial_20 : decode prog_3_method_21_code 20 = .ok (.ixor, 1) := by decide +kernel
theorem d_Da_isShadedOnTrial_21 : decode prog_3_method_21_code 21 = .ok (.iand, 1) := by decide +kernel
theorem d_Da_isShadedOnTrial_34 : decode prog_3_method_21_code 34 = .ok (.iconst 1, 1) := by decide +kernel
theorem d_Da_isShadedOnTrial_35 : decode prog_3_method_21_code 35 = .ok (.goto 4, 3) := by decide +kernel
theorem d_Da_isShadedOnTrial_39 : decode prog_3_method_21_code 39 = .ok (.ireturn, 1) := by decide +kernel
theorem d_Da_isShadedOnTrial_25 : decode prog_3_method_21_code 25 = .ok (.aload_n 0, 1) := by decide +kernel
theorem d_Da_isShadedOnTrial_26 : decode prog_3_method_21_code 26 = .ok (.getfield 38, 3) := by decide +kernel
theorem d_Da_isShadedOnTrial_29 : decode prog_3_method_21_code 29 = .ok (.iload_n 3, 1) := by decide +kernel
theorem d_Da_isShadedOnTrial_30 : decode prog_3_method_21_code 30 = .ok (.iaload, 1) := by decide +kernel
theorem d_Da_isShadedOnTrial_38 : decode prog_3_method_21_code 38 = .ok (.iconst 0, 1) := by decide +kernel
theorem d_Da_isShadedOnTrial_31 : decode prog_3_method_21_code 31 = .ok (.ifCond .eq 7, 3) := by decide +kernel
theorem d_Da_isShadedOnTrial_22 : decode prog_3_method_21_code 22 = .ok (.ifCond .ne 12, 3) := by decide +kernel
theorem d_Da_isShadedOnTrial_8 : decode prog_3_method_21_code 8 = .ok (.iconst 0, 1) := by decide +kernel
theorem d_Da_isShadedOnTrial_9 : decode prog_3_method_21_code 9 = .ok (.ireturn, 1) := by decide +kernel
theorem d_Da_isShadedOnTrial_5 : decode prog_3_method_21_code 5 = .ok (.ifCond .ne 5, 3) := by decide +kernel
def f_Da_isShadedOnTrial (σ : Mem) (a1 : Int32) (a2 : Int32) (a3 : Int32) : Option (Int32) :=
  bnd1 (f_Da_isFree σ a3) fun r2 =>
  if r2 = 0 then
    (some 0)
  else
    (bnd1 (f_Da_whoCasts σ a2 a3) fun r13 =>
    if (r13 &&& ((1 <<< (a1 &&& 31)) ^^^ (-1))) = 0 then
      (grd (inb a3 144) <|
      if (mI σ 40 (a3.toNatClampNeg)) = 0 then
        (some 0)
      else
        (some 1))
    else
      (some 1))
set_option maxHeartbeats 4000000 in
set_option maxRecDepth 20000 in
theorem c_Da_isShadedOnTrial (Z : ZX) {σ : Mem} {a1 : Int32} {a2 : Int32} {a3 : Int32} {r : Int32} (h : f_Da_isShadedOnTrial σ a1 a2 a3 = some r) : CI Z 2 m_Da_isShadedOnTrial [rf Z 33, .int a1, .int a2, .int a3] σ r σ := by
  refine Ct.of (by decide +kernel) (Nat.le_of_ble_eq_true rfl) (fun Y => ?_)
  show V (mkB Z) Y m_Da_isShadedOnTrial 2 (QP (mkB Z) Y nC 0 0 (fun v t => v = some (.int r) ∧ t = σ)) 0 0 nC σ 0 [(0, rf Z 33), (1, .int a1), (2, .int a2), (3, .int a3)] []
  unfold f_Da_isShadedOnTrial at h
  refine V.aload_n d_Da_isShadedOnTrial_0 rfl 0 rfl ?_
  refine V.iload_n d_Da_isShadedOnTrial_1 rfl 3 rfl ?_
  obtain ⟨r2, h1, h⟩ := bnd1_e h
  refine V.vI (as := [.int a3]) (st := []) (c_Da_isFree Z h1) k_Da_isFree lk_Da_59 (by decide) rfl (by decide) ly_33 ok_Da.1 rfl (Nat.le_of_ble_eq_true rfl) d_Da_isShadedOnTrial_2 ?_
  refine V.if_ne (tgt := 10) d_Da_isShadedOnTrial_5 (by decide) (fun hc5 => ?_) (fun hc5 => ?_)
  · replace h := ite_f hc5 h
    refine V.aload_n d_Da_isShadedOnTrial_10 rfl 0 rfl ?_
    refine V.iload_n d_Da_isShadedOnTrial_11 rfl 2 rfl ?_
    refine V.iload_n d_Da_isShadedOnTrial_12 rfl 3 rfl ?_
    obtain ⟨r13, h1, h⟩ := bnd1_e h
    refine V.vI (as := [.int a2, .int a3]) (st := []) (c_Da_whoCasts Z h1) k_Da_whoCasts lk_Da_62 (by decide) rfl (by decide) ly_33 ok_Da.1 rfl (Nat.le_of_ble_eq_true rfl) d_Da_isShadedOnTrial_13 ?_
    refine V.iconst (v := 1) d_Da_isShadedOnTrial_16 (by decide) ?_
    refine V.iload_n d_Da_isShadedOnTrial_17 rfl 1 rfl ?_
    refine V.ishl d_Da_isShadedOnTrial_18 ?_
    refine V.iconst (v := (-1)) d_Da_isShadedOnTrial_19 (by decide) ?_
    refine V.ixor d_Da_isShadedOnTrial_20 ?_
    refine V.iand d_Da_isShadedOnTrial_21 ?_
    refine V.if_ne (tgt := 34) d_Da_isShadedOnTrial_22 (by decide) (fun hc22 => ?_) (fun hc22 => ?_)
    · replace h := ite_f hc22 h
      refine V.iconst (v := 1) d_Da_isShadedOnTrial_34 (by decide) ?_
      refine V.goto (tgt := 39) d_Da_isShadedOnTrial_35 (by decide) ?_
      cases h
      exact V.zret rfl rfl d_Da_isShadedOnTrial_39 ⟨rfl, rfl⟩
    · replace h := ite_t hc22 h
      refine V.aload_n d_Da_isShadedOnTrial_25 rfl 0 rfl ?_
      refine V.getR (r := 40) ok_Da fl_Da_38 (by decide) (by decide) ly_33 rfl d_Da_isShadedOnTrial_26 ?_
      refine V.iload_n d_Da_isShadedOnTrial_29 rfl 3 rfl ?_
      obtain ⟨gq, h⟩ := grd_e h
      refine V.ra (by decide) ly_40 (inb_e gq) rfl d_Da_isShadedOnTrial_30 ?_
      refine V.if_eq (tgt := 38) d_Da_isShadedOnTrial_31 (by decide) (fun hc31 => ?_) (fun hc31 => ?_)
      · replace h := ite_t hc31 h
        refine V.iconst (v := 0) d_Da_isShadedOnTrial_38 (by decide) ?_
        cases h
        exact V.zret rfl rfl d_Da_isShadedOnTrial_39 ⟨rfl, rfl⟩
      · replace h := ite_f hc31 h
        refine V.iconst (v := 1) d_Da_isShadedOnTrial_34 (by decide) ?_
        refine V.goto (tgt := 39) d_Da_isShadedOnTrial_35 (by decide) ?_
        cases h
        exact V.zret rfl rfl d_Da_isShadedOnTrial_39 ⟨rfl, rfl⟩
  · replace h := ite_t hc5 h
    refine V.iconst (v := 0) d_Da_isShadedOnTrial_8 (by decide) ?_
    cases h
    exact V.zret rfl rfl d_Da_isShadedOnTrial_9 ⟨rfl, rfl⟩
abbrev m_Wi_happinessOnTrial : MI := (⟨"ShadeTown$Wishes", "happinessOnTrial", "(LShadeTown$Day;IZ)I"⟩, prog_11_method_8_code, 8, (Option.some Jvm.ClassFile.FieldType.int))
theorem d_Wi_happinessOnTrial_0 : decode prog_11_method_8_code 0 = .ok (.iconst 0, 1) := by decide +kernel
theorem d_Wi_happinessOnTrial_1 : decode prog_11_method_8_code 1 = .ok (.istore 4, 2) := by decide +kernel
theorem d_Wi_happinessOnTrial_3 : decode prog_11_method_8_code 3 = .ok (.iconst 0, 1) := by decide +kernel
theorem d_Wi_happinessOnTrial_4 : decode prog_11_method_8_code 4 = .ok (.istore 5, 2) := by decide +kernel
theorem d_Wi_happinessOnTrial_6 : decode prog_11_method_8_code 6 = .ok (.iload 5, 2) := by decide +kernel
theorem d_Wi_happinessOnTrial_8 : decode prog_11_method_8_code 8 = .ok (.bipush 24, 2) := by decide +kernel
theorem d_Wi_happinessOnTrial_106 : decode prog_11_method_8_code 106 = .ok (.iload 4, 2) := by decide +kernel
theorem d_Wi_happinessOnTrial_108 : decode prog_11_method_8_code 108 = .ok (.ireturn, 1) := by decide +kernel
theorem d_Wi_happinessOnTrial_13 : decode prog_11_method_8_code 13 = .ok (.aload_n 1, 1) := by decide +kernel
theorem d_Wi_happinessOnTrial_14 : decode prog_11_method_8_code 14 = .ok (.iload 5, 2) := by decide +kernel
theorem d_Wi_happinessOnTrial_16 : decode prog_11_method_8_code 16 = .ok (.invokevirtual 56, 3) := by decide +kernel
theorem k_Da_layTrial : MOk m_Da_layTrial 1 ∧ IOk m_Da_layTrial := ⟨⟨atG 1159 (by decide +kernel) rfl, atG 116 (by decide +kernel) rfl, ⟨by decide, by decide⟩, by decide +kernel, by decide⟩, atG 1157 (by decide +kernel) rfl, atG 1158 (by decide +kernel) rfl⟩
theorem lk_Wi_56 : Cond.methodLink "ShadeTown$Wishes" 56 ⟨"ShadeTown$Day", "layTrial", "(I)V"⟩ ∈ tblG := atG 1156 (by decide +kernel) rfl
theorem d_Wi_happinessOnTrial_19 : decode prog_11_method_8_code 19 = .ok (.iconst 0, 1) := by decide +kernel
theorem d_Wi_happinessOnTrial_20 : decode prog_11_method_8_code 20 = .ok (.istore 6, 2) := by decide +kernel
theorem d_Wi_happinessOnTrial_22 : decode prog_11_method_8_code 22 = .ok (.iload 6, 2) := by decide +kernel
theorem d_Wi_happinessOnTrial_24 : decode prog_11_method_8_code 24 = .ok (.bipush 16, 2) := by decide +kernel
theorem d_Wi_happinessOnTrial_29 : decode prog_11_method_8_code 29 = .ok (.aload_n 0, 1) := by decide +kernel
theorem d_Wi_happinessOnTrial_30 : decode prog_11_method_8_code 30 = .ok (.aload_n 1, 1) := by decide +kernel
theorem d_Wi_happinessOnTrial_31 : decode prog_11_method_8_code 31 = .ok (.iload 6, 2) := by decide +kernel
theorem d_Wi_happinessOnTrial_33 : decode prog_11_method_8_code 33 = .ok (.iload 5, 2) := by decide +kernel
theorem d_Wi_happinessOnTrial_35 : decode prog_11_method_8_code 35 = .ok (.invokevirtual 39, 3) := by decide +kernel
theorem d_Wi_happinessOnTrial_41 : decode prog_11_method_8_code 41 = .ok (.aload_n 0, 1) := by decide +kernel
theorem d_Wi_happinessOnTrial_42 : decode prog_11_method_8_code 42 = .ok (.getfield 25, 3) := by decide +kernel
theorem d_Wi_happinessOnTrial_45 : decode prog_11_method_8_code 45 = .ok (.iload 6, 2) := by decide +kernel
theorem d_Wi_happinessOnTrial_47 : decode prog_11_method_8_code 47 = .ok (.baload, 1) := by decide +kernel
theorem d_Wi_happinessOnTrial_48 : decode prog_11_method_8_code 48 = .ok (.iload_n 3, 1) := by decide +kernel
theorem d_Wi_happinessOnTrial_49 : decode prog_11_method_8_code 49 = .ok (.if_icmp .ne 7, 3) := by decide +kernel
theorem d_Wi_happinessOnTrial_38 : decode prog_11_method_8_code 38 = .ok (.ifCond .eq 18, 3) := by decide +kernel
theorem d_Wi_happinessOnTrial_56 : decode prog_11_method_8_code 56 = .ok (.iconst 0, 1) := by decide +kernel
theorem d_Wi_happinessOnTrial_52 : decode prog_11_method_8_code 52 = .ok (.iconst 1, 1) := by decide +kernel
theorem d_Wi_happinessOnTrial_53 : decode prog_11_method_8_code 53 = .ok (.goto 4, 3) := by decide +kernel
theorem d_Wi_happinessOnTrial_57 : decode prog_11_method_8_code 57 = .ok (.istore 7, 2) := by decide +kernel
theorem d_Wi_happinessOnTrial_59 : decode prog_11_method_8_code 59 = .ok (.iload 7, 2) := by decide +kernel
theorem d_Wi_happinessOnTrial_64 : decode prog_11_method_8_code 64 = .ok (.iload_n 3, 1) := by decide +kernel
theorem d_Wi_happinessOnTrial_65 : decode prog_11_method_8_code 65 = .ok (.aload_n 1, 1) := by decide +kernel
theorem d_Wi_happinessOnTrial_66 : decode prog_11_method_8_code 66 = .ok (.iload_n 2, 1) := by decide +kernel
theorem d_Wi_happinessOnTrial_67 : decode prog_11_method_8_code 67 = .ok (.iload 5, 2) := by decide +kernel
theorem d_Wi_happinessOnTrial_69 : decode prog_11_method_8_code 69 = .ok (.aload_n 0, 1) := by decide +kernel
theorem d_Wi_happinessOnTrial_70 : decode prog_11_method_8_code 70 = .ok (.getfield 15, 3) := by decide +kernel
theorem d_Wi_happinessOnTrial_73 : decode prog_11_method_8_code 73 = .ok (.iload 6, 2) := by decide +kernel
theorem d_Wi_happinessOnTrial_75 : decode prog_11_method_8_code 75 = .ok (.iaload, 1) := by decide +kernel
theorem d_Wi_happinessOnTrial_76 : decode prog_11_method_8_code 76 = .ok (.invokevirtual 60, 3) := by decide +kernel
theorem k_Da_isShadedOnTrial : MOk m_Da_isShadedOnTrial 3 ∧ IOk m_Da_isShadedOnTrial := ⟨⟨atG 1164 (by decide +kernel) rfl, atG 116 (by decide +kernel) rfl, ⟨by decide, by decide⟩, by decide +kernel, by decide⟩, atG 1162 (by decide +kernel) rfl, atG 1163 (by decide +kernel) rfl⟩
theorem lk_Wi_60 : Cond.methodLink "ShadeTown$Wishes" 60 ⟨"ShadeTown$Day", "isShadedOnTrial", "(III)Z"⟩ ∈ tblG := atG 1161 (by decide +kernel) rfl
theorem d_Wi_happinessOnTrial_82 : decode prog_11_method_8_code 82 = .ok (.iload 4, 2) := by decide +kernel
theorem d_Wi_happinessOnTrial_84 : decode prog_11_method_8_code 84 = .ok (.aload_n 0, 1) := by decide +kernel
theorem d_Wi_happinessOnTrial_85 : decode prog_11_method_8_code 85 = .ok (.getfield 29, 3) := by decide +kernel
theorem d_Wi_happinessOnTrial_88 : decode prog_11_method_8_code 88 = .ok (.iload 6, 2) := by decide +kernel
theorem d_Wi_happinessOnTrial_90 : decode prog_11_method_8_code 90 = .ok (.iaload, 1) := by decide +kernel
theorem d_Wi_happinessOnTrial_91 : decode prog_11_method_8_code 91 = .ok (.iadd, 1) := by decide +kernel
theorem d_Wi_happinessOnTrial_92 : decode prog_11_method_8_code 92 = .ok (.istore 4, 2) := by decide +kernel
theorem d_Wi_happinessOnTrial_79 : decode prog_11_method_8_code 79 = .ok (.if_icmp .eq 15, 3) := by decide +kernel
theorem d_Wi_happinessOnTrial_61 : decode prog_11_method_8_code 61 = .ok (.ifCond .eq 33, 3) := by decide +kernel
theorem d_Wi_happinessOnTrial_94 : decode prog_11_method_8_code 94 = .ok (.iinc 6 1, 3) := by decide +kernel
theorem d_Wi_happinessOnTrial_97 : decode prog_11_method_8_code 97 = .ok (.goto (-75), 3) := by decide +kernel
theorem d_Wi_happinessOnTrial_26 : decode prog_11_method_8_code 26 = .ok (.if_icmp .ge 74, 3) := by decide +kernel
theorem d_Wi_happinessOnTrial_100 : decode prog_11_method_8_code 100 = .ok (.iinc 5 1, 3) := by decide +kernel
theorem d_Wi_happinessOnTrial_103 : decode prog_11_method_8_code 103 = .ok (.goto (-97), 3) := by decide +kernel
theorem d_Wi_happinessOnTrial_10 : decode prog_11_method_8_code 10 = .ok (.if_icmp .ge 96, 3) := by decide +kernel
def B_Wi_happinessOnTrial_l22 (N : Nat) (a2 : Int32) (a3 : Int32) (a5 : Int32) (σ : Mem) (rec : Int32 → Int32 → Option (Int32)) (x4 : Int32) (x6 : Int32) : Option (Int32) :=
  if 16 ≤ x6 then
    (some x4)
  else
    (bnd1 (f_Wi_isAsked σ x6 a5) fun r35 =>
    bnd1 ((
      bnd1 ((
        if r35 = 0 then
          (some 0)
        else
          (grd (inb x6 16) <|
          if (mI σ 60 (x6.toNatClampNeg)) = a3 then
            (some 1)
          else
            (some 0))) : Option (Nat)) fun t38b =>
      if t38b = 0 then
        (some 0)
      else
      (some 1)) : Option (Int32)) fun y38_s0 =>
    bnd1 ((
      if y38_s0 = 0 then
        (some x4)
      else
        (grd (inb x6 16) <|
        bnd1 (f_Da_isShadedOnTrial σ a2 a5 (mI σ 57 (x6.toNatClampNeg))) fun r76 =>
        if a3 = r76 then
          (some x4)
        else
          (grd (inb x6 16) <|
          letv (x4 + (mI σ 61 (x6.toNatClampNeg))) fun v92 =>
          some v92))) : Option (Int32)) fun y61_4 =>
    letv (x6 + 1) fun v94 =>
    rec y61_4 v94)
def L_Wi_happinessOnTrial_l22 (N : Nat) (a2 : Int32) (a3 : Int32) (a5 : Int32) (σ : Mem) : Nat → Int32 → Int32 → Option (Int32)
  | 0, _, _ => none
  | k + 1, x4, x6 => B_Wi_happinessOnTrial_l22 N a2 a3 a5 σ (L_Wi_happinessOnTrial_l22 N a2 a3 a5 σ k) x4 x6
set_option maxHeartbeats 4000000 in
set_option maxRecDepth 20000 in
theorem cL_Wi_happinessOnTrial_l22 (Z : ZX) {Y : YX} {Q : State → Prop} {N : Nat} {a2 : Int32} {a3 : Int32} {a5 : Int32} {σ : Mem} {Good : Int32 → Prop} (hE : ∀ (o4 : Int32), Good o4 → V (mkB Z) Y m_Wi_happinessOnTrial 4 Q 0 0 nC σ 100 [(0, rf Z 56), (1, rf Z 33), (2, .int a2), (3, .int a3), (4, .int o4), (5, .int a5)] []) : ∀ (k : Nat) (x4 : Int32) (x6 : Int32) (res : Int32), L_Wi_happinessOnTrial_l22 N a2 a3 a5 σ k x4 x6 = some res → Good res → V (mkB Z) Y m_Wi_happinessOnTrial 4 Q 0 0 nC σ 22 [(0, rf Z 56), (1, rf Z 33), (2, .int a2), (3, .int a3), (4, .int x4), (5, .int a5), (6, .int x6)] [] := by
  intro k
  induction k with
  | zero => intro x4 x6 res h; cases h
  | succ k ih =>
    intro x4 x6 res h hg
    replace h : B_Wi_happinessOnTrial_l22 N a2 a3 a5 σ (L_Wi_happinessOnTrial_l22 N a2 a3 a5 σ k) x4 x6 = some res := h
    unfold B_Wi_happinessOnTrial_l22 at h
    refine V.iload d_Wi_happinessOnTrial_22 6 rfl ?_
    refine V.bipush (v := 16) d_Wi_happinessOnTrial_24 (by decide) ?_
    refine V.icmp_ge (tgt := 100) d_Wi_happinessOnTrial_26 (by decide) (fun hc26 => ?_) (fun hc26 => ?_)
    · replace h := ite_t hc26 h
      cases h
      exact V.pick [0, 1, 2, 3, 4, 5] rfl (hE _ hg)
    · replace h := ite_f hc26 h
      refine V.aload_n d_Wi_happinessOnTrial_29 rfl 0 rfl ?_
      refine V.aload_n d_Wi_happinessOnTrial_30 rfl 1 rfl ?_
      refine V.iload d_Wi_happinessOnTrial_31 6 rfl ?_
      refine V.iload d_Wi_happinessOnTrial_33 5 rfl ?_
      obtain ⟨r35, h1, h⟩ := bnd1_e h
      refine V.vI (as := [rf Z 33, .int x6, .int a5]) (st := []) (c_Wi_isAsked Z h1) k_Wi_isAsked lk_Wi_39 (by decide) rfl (by decide) ly_56 ok_Wi.1 rfl (Nat.le_of_ble_eq_true rfl) d_Wi_happinessOnTrial_35 ?_
      obtain ⟨s38, h1, h⟩ := bnd1_e h
      have J38_57 : ∀ (y38_s0 : Int32), s38 = y38_s0 → V (mkB Z) Y m_Wi_happinessOnTrial 4 Q 0 0 nC σ 57 [(0, rf Z 56), (1, rf Z 33), (2, .int a2), (3, .int a3), (4, .int x4), (5, .int a5), (6, .int x6)] [.int y38_s0] := by
        intro y38_s0 he
        rw [he] at h
        refine V.istore (lv' := [(7, .int y38_s0), (0, rf Z 56), (1, rf Z 33), (2, .int a2), (3, .int a3), (4, .int x4), (5, .int a5), (6, .int x6)]) d_Wi_happinessOnTrial_57 (by decide) rfl ?_
        refine V.iload d_Wi_happinessOnTrial_59 0 rfl ?_
        obtain ⟨s61, h1, h⟩ := bnd1_e h
        have J61_94 : ∀ (y61_4 : Int32), s61 = y61_4 → V (mkB Z) Y m_Wi_happinessOnTrial 4 Q 0 0 nC σ 94 [(0, rf Z 56), (1, rf Z 33), (2, .int a2), (3, .int a3), (4, .int y61_4), (5, .int a5), (6, .int x6)] [] := by
          intro y61_4 he
          rw [he] at h
          obtain ⟨v94, e_v94, h⟩ := letv_e h
          refine V.iinc (v := v94) (lv' := [(6, .int v94), (0, rf Z 56), (1, rf Z 33), (2, .int a2), (3, .int a3), (4, .int y61_4), (5, .int a5)]) d_Wi_happinessOnTrial_94 6 rfl (by rw [e_v94]; rfl) (by decide) rfl ?_
          refine V.goto (tgt := 22) d_Wi_happinessOnTrial_97 (by decide) ?_
          exact V.pick [1, 2, 3, 4, 5, 6, 0] rfl (ih _ _ _ h hg)
        replace h := h1
        refine V.if_eq (tgt := 94) d_Wi_happinessOnTrial_61 (by decide) (fun hc61 => ?_) (fun hc61 => ?_)
        · replace h := ite_t hc61 h
          exact V.pick [1, 2, 3, 4, 5, 6, 7] rfl (J61_94 _ (Option.some.inj h).symm)
        · replace h := ite_f hc61 h
          refine V.iload_n d_Wi_happinessOnTrial_64 rfl 4 rfl ?_
          refine V.aload_n d_Wi_happinessOnTrial_65 rfl 2 rfl ?_
          refine V.iload_n d_Wi_happinessOnTrial_66 rfl 3 rfl ?_
          refine V.iload d_Wi_happinessOnTrial_67 6 rfl ?_
          refine V.aload_n d_Wi_happinessOnTrial_69 rfl 1 rfl ?_
          refine V.getR (r := 57) ok_Wi fl_Wi_15 (by decide) (by decide) ly_56 rfl d_Wi_happinessOnTrial_70 ?_
          refine V.iload d_Wi_happinessOnTrial_73 7 rfl ?_
          obtain ⟨gq, h⟩ := grd_e h
          refine V.ra (by decide) ly_57 (inb_e gq) rfl d_Wi_happinessOnTrial_75 ?_
          obtain ⟨r76, h1, h⟩ := bnd1_e h
          refine V.vI (as := [.int a2, .int a5, .int (mI σ 57 (x6.toNatClampNeg))]) (st := [.int a3]) (c_Da_isShadedOnTrial Z h1) k_Da_isShadedOnTrial lk_Wi_60 (by decide) rfl (by decide) ly_33 ok_Da.1 rfl (Nat.le_of_ble_eq_true rfl) d_Wi_happinessOnTrial_76 ?_
          refine V.icmp_eq (tgt := 94) d_Wi_happinessOnTrial_79 (by decide) (fun hc79 => ?_) (fun hc79 => ?_)
          · replace h := ite_t hc79 h
            exact V.pick [1, 2, 3, 4, 5, 6, 7] rfl (J61_94 _ (Option.some.inj h).symm)
          · replace h := ite_f hc79 h
            refine V.iload d_Wi_happinessOnTrial_82 5 rfl ?_
            refine V.aload_n d_Wi_happinessOnTrial_84 rfl 1 rfl ?_
            refine V.getR (r := 61) ok_Wi fl_Wi_29 (by decide) (by decide) ly_56 rfl d_Wi_happinessOnTrial_85 ?_
            refine V.iload d_Wi_happinessOnTrial_88 7 rfl ?_
            obtain ⟨gq, h⟩ := grd_e h
            refine V.ra (by decide) ly_61 (inb_e gq) rfl d_Wi_happinessOnTrial_90 ?_
            refine V.iadd d_Wi_happinessOnTrial_91 ?_
            obtain ⟨v92, e_v92, h⟩ := letv_e h
            refine V.topI e_v92 ?_
            refine V.istore (lv' := [(4, .int v92), (7, .int y38_s0), (0, rf Z 56), (1, rf Z 33), (2, .int a2), (3, .int a3), (5, .int a5), (6, .int x6)]) d_Wi_happinessOnTrial_92 (by decide) rfl ?_
            exact V.pick [2, 3, 4, 5, 0, 6, 7] rfl (J61_94 _ (Option.some.inj h).symm)
      replace h := h1
      obtain ⟨s38b, h1, h⟩ := bnd1_e h
      have J38b_56 : s38b = 0 → V (mkB Z) Y m_Wi_happinessOnTrial 4 Q 0 0 nC σ 56 [(0, rf Z 56), (1, rf Z 33), (2, .int a2), (3, .int a3), (4, .int x4), (5, .int a5), (6, .int x6)] [] := by
        intro he
        rw [he] at h
        replace h := ite_t rfl h
        refine V.iconst (v := 0) d_Wi_happinessOnTrial_56 (by decide) ?_
        exact V.pick [0, 1, 2, 3, 4, 5, 6] rfl (J38_57 _ (Option.some.inj h).symm)
      have J38b_52 : s38b = 1 → V (mkB Z) Y m_Wi_happinessOnTrial 4 Q 0 0 nC σ 52 [(0, rf Z 56), (1, rf Z 33), (2, .int a2), (3, .int a3), (4, .int x4), (5, .int a5), (6, .int x6)] [] := by
        intro he
        rw [he] at h
        replace h := ite_f (by decide) h
        refine V.iconst (v := 1) d_Wi_happinessOnTrial_52 (by decide) ?_
        refine V.goto (tgt := 57) d_Wi_happinessOnTrial_53 (by decide) ?_
        exact V.pick [0, 1, 2, 3, 4, 5, 6] rfl (J38_57 _ (Option.some.inj h).symm)
      replace h := h1
      refine V.if_eq (tgt := 56) d_Wi_happinessOnTrial_38 (by decide) (fun hc38 => ?_) (fun hc38 => ?_)
      · replace h := ite_t hc38 h
        exact V.pick [0, 1, 2, 3, 4, 5, 6] rfl (J38b_56 (Option.some.inj h).symm)
      · replace h := ite_f hc38 h
        refine V.aload_n d_Wi_happinessOnTrial_41 rfl 0 rfl ?_
        refine V.getR (r := 60) ok_Wi fl_Wi_25 (by decide) (by decide) ly_56 rfl d_Wi_happinessOnTrial_42 ?_
        refine V.iload d_Wi_happinessOnTrial_45 6 rfl ?_
        obtain ⟨gq, h⟩ := grd_e h
        refine V.rz (by decide) ly_60 (inb_e gq) rfl d_Wi_happinessOnTrial_47 ?_
        refine V.iload_n d_Wi_happinessOnTrial_48 rfl 3 rfl ?_
        refine V.icmp_ne (tgt := 56) d_Wi_happinessOnTrial_49 (by decide) (fun hc49 => ?_) (fun hc49 => ?_)
        · replace h := ite_f hc49 h
          exact V.pick [0, 1, 2, 3, 4, 5, 6] rfl (J38b_56 (Option.some.inj h).symm)
        · replace h := ite_t hc49 h
          exact V.pick [0, 1, 2, 3, 4, 5, 6] rfl (J38b_52 (Option.some.inj h).symm)
def B_Wi_happinessOnTrial_l6 (N : Nat) (a2 : Int32) (a3 : Int32) (rec : Int32 → Int32 → Mem → Option (Int32 × Mem)) (x4 : Int32) (x5 : Int32) (σ : Mem) : Option (Int32 × Mem) :=
  if 24 ≤ x5 then
    (some (x4, σ))
  else
    (bnd1 (f_Da_layTrial N σ x5) fun σ16 =>
    bnd1 (L_Wi_happinessOnTrial_l22 N a2 a3 x5 σ16 N x4 0) fun z22_4 =>
    letv (x5 + 1) fun v100 =>
    rec z22_4 v100 σ16)
def L_Wi_happinessOnTrial_l6 (N : Nat) (a2 : Int32) (a3 : Int32) : Nat → Int32 → Int32 → Mem → Option (Int32 × Mem)
  | 0, _, _, _ => none
  | k + 1, x4, x5, σ => B_Wi_happinessOnTrial_l6 N a2 a3 (L_Wi_happinessOnTrial_l6 N a2 a3 k) x4 x5 σ
set_option maxHeartbeats 4000000 in
set_option maxRecDepth 20000 in
theorem cL_Wi_happinessOnTrial_l6 (Z : ZX) {Y : YX} {post : Option Value → Mem → Prop} {N : Nat} {a2 : Int32} {a3 : Int32} {Good : Int32 × Mem → Prop} (hR : ∀ (v : Int32) (σr : Mem), Good (v, σr) → post (some (.int v)) σr) : ∀ (k : Nat) (x4 : Int32) (x5 : Int32) (σ : Mem) (res : Int32 × Mem), L_Wi_happinessOnTrial_l6 N a2 a3 k x4 x5 σ = some res → Good res → V (mkB Z) Y m_Wi_happinessOnTrial 4 (QP (mkB Z) Y nC 0 0 post) 0 0 nC σ 6 [(0, rf Z 56), (1, rf Z 33), (2, .int a2), (3, .int a3), (4, .int x4), (5, .int x5)] [] := by
  intro k
  induction k with
  | zero => intro x4 x5 σ res h; cases h
  | succ k ih =>
    intro x4 x5 σ res h hg
    replace h : B_Wi_happinessOnTrial_l6 N a2 a3 (L_Wi_happinessOnTrial_l6 N a2 a3 k) x4 x5 σ = some res := h
    unfold B_Wi_happinessOnTrial_l6 at h
    refine V.iload d_Wi_happinessOnTrial_6 5 rfl ?_
    refine V.bipush (v := 24) d_Wi_happinessOnTrial_8 (by decide) ?_
    refine V.icmp_ge (tgt := 106) d_Wi_happinessOnTrial_10 (by decide) (fun hc10 => ?_) (fun hc10 => ?_)
    · replace h := ite_t hc10 h
      refine V.iload d_Wi_happinessOnTrial_106 4 rfl ?_
      cases h
      exact V.iret rfl d_Wi_happinessOnTrial_108 (hR _ _ hg)
    · replace h := ite_f hc10 h
      refine V.aload_n d_Wi_happinessOnTrial_13 rfl 1 rfl ?_
      refine V.iload d_Wi_happinessOnTrial_14 5 rfl ?_
      obtain ⟨σ16, h1, h⟩ := bnd1_e h
      refine V.vN (as := [.int x5]) (st := []) (c_Da_layTrial Z h1) k_Da_layTrial lk_Wi_56 (by decide) rfl (by decide) ly_33 ok_Da.1 rfl (Nat.le_of_ble_eq_true rfl) d_Wi_happinessOnTrial_16 ?_
      refine V.iconst (v := 0) d_Wi_happinessOnTrial_19 (by decide) ?_
      refine V.istore (lv' := [(6, .int 0), (0, rf Z 56), (1, rf Z 33), (2, .int a2), (3, .int a3), (4, .int x4), (5, .int x5)]) d_Wi_happinessOnTrial_20 (by decide) rfl ?_
      obtain ⟨x22_, h1, h⟩ := bnd1_e h
      refine V.pick [1, 2, 3, 4, 5, 6, 0] rfl (cL_Wi_happinessOnTrial_l22 Z (Good := fun z => x22_ = z) (fun z22_4 he => ?_) N _ _ _ h1 rfl)
      · rw [he] at h
        obtain ⟨v100, e_v100, h⟩ := letv_e h
        refine V.iinc (v := v100) (lv' := [(5, .int v100), (0, rf Z 56), (1, rf Z 33), (2, .int a2), (3, .int a3), (4, .int z22_4)]) d_Wi_happinessOnTrial_100 5 rfl (by rw [e_v100]; rfl) (by decide) rfl ?_
        refine V.goto (tgt := 6) d_Wi_happinessOnTrial_103 (by decide) ?_
        exact V.pick [1, 2, 3, 4, 5, 0] rfl (ih _ _ _ _ h hg)
def f_Wi_happinessOnTrial (N : Nat) (σ : Mem) (a2 : Int32) (a3 : Int32) : Option (Int32 × Mem) :=
  L_Wi_happinessOnTrial_l6 N a2 a3 N 0 0 σ
set_option maxHeartbeats 4000000 in
set_option maxRecDepth 20000 in
theorem c_Wi_happinessOnTrial (Z : ZX) {N : Nat} {σ : Mem} {a2 : Int32} {a3 : Int32} {r : Int32} {σ' : Mem} (h : f_Wi_happinessOnTrial N σ a2 a3 = some (r, σ')) : CI Z 4 m_Wi_happinessOnTrial [rf Z 56, rf Z 33, .int a2, .int a3] σ r σ' := by
  refine Ct.of (by decide +kernel) (Nat.le_of_ble_eq_true rfl) (fun Y => ?_)
  show V (mkB Z) Y m_Wi_happinessOnTrial 4 (QP (mkB Z) Y nC 0 0 (fun v t => v = some (.int r) ∧ t = σ')) 0 0 nC σ 0 [(0, rf Z 56), (1, rf Z 33), (2, .int a2), (3, .int a3)] []
  unfold f_Wi_happinessOnTrial at h
  refine V.iconst (v := 0) d_Wi_happinessOnTrial_0 (by decide) ?_
  refine V.istore (lv' := [(4, .int 0), (0, rf Z 56), (1, rf Z 33), (2, .int a2), (3, .int a3)]) d_Wi_happinessOnTrial_1 (by decide) rfl ?_
  refine V.iconst (v := 0) d_Wi_happinessOnTrial_3 (by decide) ?_
  refine V.istore (lv' := [(5, .int 0), (4, .int 0), (0, rf Z 56), (1, rf Z 33), (2, .int a2), (3, .int a3)]) d_Wi_happinessOnTrial_4 (by decide) rfl ?_
  refine V.pick [2, 3, 4, 5, 1, 0] rfl (cL_Wi_happinessOnTrial_l6 Z (Good := fun z => z = _) (fun r6v r6m he => ?_) N _ _ _ _ h rfl)
  · cases he
    exact ⟨rfl, rfl⟩
