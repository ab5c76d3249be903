abbrev m_Sh_buyer : MI := (⟨"ShadeTown", "buyer", "(III)Z"⟩, prog_1_method_19_code, 4, (Option.some Jvm.ClassFile.FieldType.boolean))
theorem d_Sh_buyer_0 : decode prog_1_method_19_code 0 = .ok (.aload_n 0, 1) := by decide +kernel
theorem fl_Sh_75 : FL "ShadeTown" 75 T_Sh 10 := atG 429 (by decide +kernel) rfl
theorem d_Sh_buyer_1 : decode prog_1_method_19_code 1 = .ok (.getfield 75, 3) := by decide +kernel
theorem d_Sh_buyer_4 : decode prog_1_method_19_code 4 = .ok (.iload_n 1, 1) := by decide +kernel
theorem d_Sh_buyer_5 : decode prog_1_method_19_code 5 = .ok (.invokevirtual 256, 3) := by decide +kernel
theorem lk_Sh_256 : Cond.methodLink "ShadeTown" 256 ⟨"ShadeTown$Market", "isNumber", "(I)Z"⟩ ∈ tblG := atG 1008 (by decide +kernel) rfl
theorem d_Sh_buyer_19 : decode prog_1_method_19_code 19 = .ok (.iconst 0, 1) := by decide +kernel
theorem d_Sh_buyer_20 : decode prog_1_method_19_code 20 = .ok (.ireturn, 1) := by decide +kernel
theorem d_Sh_buyer_11 : decode prog_1_method_19_code 11 = .ok (.iload_n 2, 1) := by decide +kernel
theorem d_Sh_buyer_12 : decode prog_1_method_19_code 12 = .ok (.iload_n 3, 1) := by decide +kernel
theorem d_Sh_buyer_13 : decode prog_1_method_19_code 13 = .ok (.invokestatic 119, 3) := by decide +kernel
theorem d_Sh_buyer_21 : decode prog_1_method_19_code 21 = .ok (.aload_n 0, 1) := by decide +kernel
theorem d_Sh_buyer_22 : decode prog_1_method_19_code 22 = .ok (.getfield 75, 3) := by decide +kernel
theorem d_Sh_buyer_25 : decode prog_1_method_19_code 25 = .ok (.iload_n 1, 1) := by decide +kernel
theorem d_Sh_buyer_26 : decode prog_1_method_19_code 26 = .ok (.bipush 12, 2) := by decide +kernel
theorem d_Sh_buyer_28 : decode prog_1_method_19_code 28 = .ok (.iload_n 3, 1) := by decide +kernel
theorem d_Sh_buyer_29 : decode prog_1_method_19_code 29 = .ok (.imul, 1) := by decide +kernel
theorem d_Sh_buyer_30 : decode prog_1_method_19_code 30 = .ok (.iload_n 2, 1) := by decide +kernel
theorem d_Sh_buyer_31 : decode prog_1_method_19_code 31 = .ok (.iadd, 1) := by decide +kernel
theorem d_Sh_buyer_32 : decode prog_1_method_19_code 32 = .ok (.invokevirtual 259, 3) := by decide +kernel
theorem k_Ma_tell : MOk m_Ma_tell 2 ∧ IOk m_Ma_tell := ⟨⟨atG 1015 (by decide +kernel) rfl, atG 119 (by decide +kernel) rfl, ⟨by decide, by decide⟩, by decide +kernel, by decide⟩, atG 1013 (by decide +kernel) rfl, atG 1014 (by decide +kernel) rfl⟩
theorem lk_Sh_259 : Cond.methodLink "ShadeTown" 259 ⟨"ShadeTown$Market", "tell", "(II)V"⟩ ∈ tblG := atG 1012 (by decide +kernel) rfl
theorem d_Sh_buyer_35 : decode prog_1_method_19_code 35 = .ok (.iconst 1, 1) := by decide +kernel
theorem d_Sh_buyer_36 : decode prog_1_method_19_code 36 = .ok (.ireturn, 1) := by decide +kernel
theorem d_Sh_buyer_16 : decode prog_1_method_19_code 16 = .ok (.ifCond .ne 5, 3) := by decide +kernel
theorem d_Sh_buyer_8 : decode prog_1_method_19_code 8 = .ok (.ifCond .eq 11, 3) := by decide +kernel
def f_Sh_buyer (σ : Mem) (a1 : Int32) (a2 : Int32) (a3 : Int32) : Option (Int32 × Mem) :=
  bnd1 (f_Ma_isNumber a1) fun r5 =>
  if r5 = 0 then
    (some (0, σ))
  else
    (bnd1 (f_Sh_inTown a2 a3) fun r13 =>
    if r13 = 0 then
      (some (0, σ))
    else
      (bnd1 (f_Ma_tell σ a1 ((12 * a3) + a2)) fun σ32 =>
      some (1, σ32)))
set_option maxHeartbeats 4000000 in
set_option maxRecDepth 20000 in
theorem c_Sh_buyer (Z : ZX) {σ : Mem} {a1 : Int32} {a2 : Int32} {a3 : Int32} {r : Int32} {σ' : Mem} (h : f_Sh_buyer σ a1 a2 a3 = some (r, σ')) : CI Z 2 m_Sh_buyer [rf Z 0, .int a1, .int a2, .int a3] σ r σ' := by
  refine Ct.of (by decide +kernel) (Nat.le_of_ble_eq_true rfl) (fun Y => ?_)
  show V (mkB Z) Y m_Sh_buyer 2 (QP (mkB Z) Y nC 0 0 (fun v t => v = some (.int r) ∧ t = σ')) 0 0 nC σ 0 [(0, rf Z 0), (1, .int a1), (2, .int a2), (3, .int a3)] []
  unfold f_Sh_buyer at h
  refine V.aload_n d_Sh_buyer_0 rfl 0 rfl ?_
  refine V.getR (r := 47) ok_Sh fl_Sh_75 (by decide) (by decide) ly_0 rfl d_Sh_buyer_1 ?_
  refine V.iload_n d_Sh_buyer_4 rfl 1 rfl ?_
  obtain ⟨r5, h1, h⟩ := bnd1_e h
  refine V.vI (as := [.int a1]) (st := []) (c_Ma_isNumber Z h1) k_Ma_isNumber lk_Sh_256 (by decide) rfl (by decide) ly_47 ok_Ma.1 rfl (Nat.le_of_ble_eq_true rfl) d_Sh_buyer_5 ?_
  refine V.if_eq (tgt := 19) d_Sh_buyer_8 (by decide) (fun hc8 => ?_) (fun hc8 => ?_)
  · replace h := ite_t hc8 h
    refine V.iconst (v := 0) d_Sh_buyer_19 (by decide) ?_
    cases h
    exact V.zret rfl rfl d_Sh_buyer_20 ⟨rfl, rfl⟩
  · replace h := ite_f hc8 h
    refine V.iload_n d_Sh_buyer_11 rfl 2 rfl ?_
    refine V.iload_n d_Sh_buyer_12 rfl 3 rfl ?_
    obtain ⟨r13, h1, h⟩ := bnd1_e h
    refine V.sI (as := [.int a2, .int a3]) (st := []) (c_Sh_inTown Z h1) k_Sh_inTown lk_Sh_119 (by decide) rfl rfl (Nat.le_of_ble_eq_true rfl) d_Sh_buyer_13 ?_
    refine V.if_ne (tgt := 21) d_Sh_buyer_16 (by decide) (fun hc16 => ?_) (fun hc16 => ?_)
    · replace h := ite_f hc16 h
      refine V.aload_n d_Sh_buyer_21 rfl 0 rfl ?_
      refine V.getR (r := 47) ok_Sh fl_Sh_75 (by decide) (by decide) ly_0 rfl d_Sh_buyer_22 ?_
      refine V.iload_n d_Sh_buyer_25 rfl 1 rfl ?_
      refine V.bipush (v := 12) d_Sh_buyer_26 (by decide) ?_
      refine V.iload_n d_Sh_buyer_28 rfl 3 rfl ?_
      refine V.imul d_Sh_buyer_29 ?_
      refine V.iload_n d_Sh_buyer_30 rfl 2 rfl ?_
      refine V.iadd d_Sh_buyer_31 ?_
      obtain ⟨σ32, h1, h⟩ := bnd1_e h
      refine V.vN (as := [.int a1, .int ((12 * a3) + a2)]) (st := []) (c_Ma_tell Z h1) k_Ma_tell lk_Sh_259 (by decide) rfl (by decide) ly_47 ok_Ma.1 rfl (Nat.le_of_ble_eq_true rfl) d_Sh_buyer_32 ?_
      refine V.iconst (v := 1) d_Sh_buyer_35 (by decide) ?_
      cases h
      exact V.zret rfl rfl d_Sh_buyer_36 ⟨rfl, rfl⟩
    · replace h := ite_t hc16 h
      refine V.iconst (v := 0) d_Sh_buyer_19 (by decide) ?_
      cases h
      exact V.zret rfl rfl d_Sh_buyer_20 ⟨rfl, rfl⟩
abbrev m_Ma_isTold : MI := (⟨"ShadeTown$Market", "isTold", "(I)Z"⟩, prog_6_method_3_code, 2, (Option.some Jvm.ClassFile.FieldType.boolean))
theorem d_Ma_isTold_0 : decode prog_6_method_3_code 0 = .ok (.aload_n 0, 1) := by decide +kernel
theorem d_Ma_isTold_1 : decode prog_6_method_3_code 1 = .ok (.iload_n 1, 1) := by decide +kernel
theorem d_Ma_isTold_2 : decode prog_6_method_3_code 2 = .ok (.invokevirtual 48, 3) := by decide +kernel
theorem d_Ma_isTold_24 : decode prog_6_method_3_code 24 = .ok (.iconst 0, 1) := by decide +kernel
theorem d_Ma_isTold_25 : decode prog_6_method_3_code 25 = .ok (.ireturn, 1) := by decide +kernel
theorem d_Ma_isTold_8 : decode prog_6_method_3_code 8 = .ok (.aload_n 0, 1) := by decide +kernel
theorem d_Ma_isTold_9 : decode prog_6_method_3_code 9 = .ok (.getfield 15, 3) := by decide +kernel
theorem d_Ma_isTold_12 : decode prog_6_method_3_code 12 = .ok (.iload_n 1, 1) := by decide +kernel
theorem d_Ma_isTold_13 : decode prog_6_method_3_code 13 = .ok (.ishr, 1) := by decide +kernel
theorem d_Ma_isTold_14 : decode prog_6_method_3_code 14 = .ok (.iconst 1, 1) := by decide +kernel
theorem d_Ma_isTold_15 : decode prog_6_method_3_code 15 = .ok (.iand, 1) := by decide +kernel
theorem d_Ma_isTold_16 : decode prog_6_method_3_code 16 = .ok (.iconst 1, 1) := by decide +kernel
theorem d_Ma_isTold_20 : decode prog_6_method_3_code 20 = .ok (.iconst 1, 1) := by decide +kernel
theorem d_Ma_isTold_21 : decode prog_6_method_3_code 21 = .ok (.goto 4, 3) := by decide +kernel
theorem d_Ma_isTold_17 : decode prog_6_method_3_code 17 = .ok (.if_icmp .ne 7, 3) := by decide +kernel
theorem d_Ma_isTold_5 : decode prog_6_method_3_code 5 = .ok (.ifCond .eq 19, 3) := by decide +kernel
def f_Ma_isTold (σ : Mem) (a1 : Int32) : Option (Int32) :=
  bnd1 (f_Ma_isNumber a1) fun r2 =>
  if r2 = 0 then
    (some 0)
  else
    (if ((mI σ 47 1) >>> (a1 &&& 31)) &&& 1 = 1 then
      (some 1)
    else
      (some 0))
set_option maxHeartbeats 4000000 in
set_option maxRecDepth 20000 in
theorem c_Ma_isTold (Z : ZX) {σ : Mem} {a1 : Int32} {r : Int32} (h : f_Ma_isTold σ a1 = some r) : CI Z 1 m_Ma_isTold [rf Z 47, .int a1] σ r σ := by
  refine Ct.of (by decide +kernel) (Nat.le_of_ble_eq_true rfl) (fun Y => ?_)
  show V (mkB Z) Y m_Ma_isTold 1 (QP (mkB Z) Y nC 0 0 (fun v t => v = some (.int r) ∧ t = σ)) 0 0 nC σ 0 [(0, rf Z 47), (1, .int a1)] []
  unfold f_Ma_isTold at h
  refine V.aload_n d_Ma_isTold_0 rfl 0 rfl ?_
  refine V.iload_n d_Ma_isTold_1 rfl 1 rfl ?_
  obtain ⟨r2, h1, h⟩ := bnd1_e h
  refine V.vI (as := [.int a1]) (st := []) (c_Ma_isNumber Z h1) k_Ma_isNumber lk_Ma_48 (by decide) rfl (by decide) ly_47 ok_Ma.1 rfl (Nat.le_of_ble_eq_true rfl) d_Ma_isTold_2 ?_
  refine V.if_eq (tgt := 24) d_Ma_isTold_5 (by decide) (fun hc5 => ?_) (fun hc5 => ?_)
  · replace h := ite_t hc5 h
    refine V.iconst (v := 0) d_Ma_isTold_24 (by decide) ?_
    cases h
    exact V.zret rfl rfl d_Ma_isTold_25 ⟨rfl, rfl⟩
  · replace h := ite_f hc5 h
    refine V.aload_n d_Ma_isTold_8 rfl 0 rfl ?_
    refine V.getI ok_Ma fl_Ma_15 (by decide) (by decide) ly_47 rfl d_Ma_isTold_9 ?_
    refine V.iload_n d_Ma_isTold_12 rfl 1 rfl ?_
    refine V.ishr d_Ma_isTold_13 ?_
    refine V.iconst (v := 1) d_Ma_isTold_14 (by decide) ?_
    refine V.iand d_Ma_isTold_15 ?_
    refine V.iconst (v := 1) d_Ma_isTold_16 (by decide) ?_
    refine V.icmp_ne (tgt := 24) d_Ma_isTold_17 (by decide) (fun hc17 => ?_) (fun hc17 => ?_)
    · replace h := ite_f hc17 h
      refine V.iconst (v := 0) d_Ma_isTold_24 (by decide) ?_
      cases h
      exact V.zret rfl rfl d_Ma_isTold_25 ⟨rfl, rfl⟩
    · replace h := ite_t hc17 h
      refine V.iconst (v := 1) d_Ma_isTold_20 (by decide) ?_
      refine V.goto (tgt := 25) d_Ma_isTold_21 (by decide) ?_
      cases h
      exact V.zret rfl rfl d_Ma_isTold_25 ⟨rfl, rfl⟩
abbrev m_La_askBuyer : MI := (⟨"ShadeTown$Law", "askBuyer", "(II)V"⟩, prog_4_method_13_code, 3, (Option.none : Option Jvm.ClassFile.FieldType))
theorem d_La_askBuyer_0 : decode prog_4_method_13_code 0 = .ok (.aload_n 0, 1) := by decide +kernel
theorem d_La_askBuyer_1 : decode prog_4_method_13_code 1 = .ok (.getfield 31, 3) := by decide +kernel
theorem d_La_askBuyer_4 : decode prog_4_method_13_code 4 = .ok (.iconst 5, 1) := by decide +kernel
theorem d_La_askBuyer_5 : decode prog_4_method_13_code 5 = .ok (.iload_n 1, 1) := by decide +kernel
theorem d_La_askBuyer_6 : decode prog_4_method_13_code 6 = .ok (.iastore, 1) := by decide +kernel
theorem d_La_askBuyer_7 : decode prog_4_method_13_code 7 = .ok (.aload_n 0, 1) := by decide +kernel
theorem d_La_askBuyer_8 : decode prog_4_method_13_code 8 = .ok (.getfield 31, 3) := by decide +kernel
theorem d_La_askBuyer_11 : decode prog_4_method_13_code 11 = .ok (.bipush 6, 2) := by decide +kernel
theorem d_La_askBuyer_13 : decode prog_4_method_13_code 13 = .ok (.iload_n 2, 1) := by decide +kernel
theorem d_La_askBuyer_14 : decode prog_4_method_13_code 14 = .ok (.iastore, 1) := by decide +kernel
theorem d_La_askBuyer_15 : decode prog_4_method_13_code 15 = .ok (.return_, 1) := by decide +kernel
def f_La_askBuyer (σ : Mem) (a1 : Int32) (a2 : Int32) : Option (Mem) :=
  letv (sI σ 8 5 a1) fun σ6 =>
  letv (sI σ6 8 6 a2) fun σ14 =>
  some σ14
set_option maxHeartbeats 4000000 in
set_option maxRecDepth 20000 in
theorem c_La_askBuyer (Z : ZX) {σ : Mem} {a1 : Int32} {a2 : Int32} {σ' : Mem} (h : f_La_askBuyer σ a1 a2 = some σ') : CN Z 0 m_La_askBuyer [rf Z 3, .int a1, .int a2] σ σ' := by
  refine Ct.of (by decide +kernel) (Nat.le_of_ble_eq_true rfl) (fun Y => ?_)
  show V (mkB Z) Y m_La_askBuyer 0 (QP (mkB Z) Y nC 0 0 (fun v t => v = none ∧ t = σ')) 0 0 nC σ 0 [(0, rf Z 3), (1, .int a1), (2, .int a2)] []
  unfold f_La_askBuyer at h
  refine V.aload_n d_La_askBuyer_0 rfl 0 rfl ?_
  refine V.getR (r := 8) ok_La fl_La_31 (by decide) (by decide) ly_3 rfl d_La_askBuyer_1 ?_
  refine V.iconst (v := 5) d_La_askBuyer_4 (by decide) ?_
  refine V.iload_n d_La_askBuyer_5 rfl 1 rfl ?_
  obtain ⟨σ6, e_σ6, h⟩ := letv_e h
  refine V.wa (j := 5) (by decide) ly_8 (inb_e (by decide)) (by decide) d_La_askBuyer_6 e_σ6 ?_
  refine V.aload_n d_La_askBuyer_7 rfl 0 rfl ?_
  refine V.getR (r := 8) ok_La fl_La_31 (by decide) (by decide) ly_3 rfl d_La_askBuyer_8 ?_
  refine V.bipush (v := 6) d_La_askBuyer_11 (by decide) ?_
  refine V.iload_n d_La_askBuyer_13 rfl 2 rfl ?_
  obtain ⟨σ14, e_σ14, h⟩ := letv_e h
  refine V.wa (j := 6) (by decide) ly_8 (inb_e (by decide)) (by decide) d_La_askBuyer_14 e_σ14 ?_
  cases h
  exact V.vret rfl d_La_askBuyer_15 ⟨rfl, rfl⟩
abbrev m_Da_worthOf : MI := (⟨"ShadeTown$Day", "worthOf", "(IIII)I"⟩, prog_3_method_19_code, 5, (Option.some Jvm.ClassFile.FieldType.int))
theorem d_Da_worthOf_0 : decode prog_3_method_19_code 0 = .ok (.aload_n 0, 1) := by decide +kernel
theorem d_Da_worthOf_1 : decode prog_3_method_19_code 1 = .ok (.iload_n 1, 1) := by decide +kernel
theorem d_Da_worthOf_2 : decode prog_3_method_19_code 2 = .ok (.iload_n 2, 1) := by decide +kernel
theorem d_Da_worthOf_3 : decode prog_3_method_19_code 3 = .ok (.invokevirtual 89, 3) := by decide +kernel
theorem d_Da_worthOf_6 : decode prog_3_method_19_code 6 = .ok (.aload_n 0, 1) := by decide +kernel
theorem d_Da_worthOf_7 : decode prog_3_method_19_code 7 = .ok (.getfield 45, 3) := by decide +kernel
theorem d_Da_worthOf_10 : decode prog_3_method_19_code 10 = .ok (.iload_n 3, 1) := by decide +kernel
theorem d_Da_worthOf_11 : decode prog_3_method_19_code 11 = .ok (.iload 4, 2) := by decide +kernel
theorem d_Da_worthOf_13 : decode prog_3_method_19_code 13 = .ok (.invokevirtual 94, 3) := by decide +kernel
theorem k_La_askBuyer : MOk m_La_askBuyer 2 ∧ IOk m_La_askBuyer := ⟨⟨atG 1037 (by decide +kernel) rfl, atG 113 (by decide +kernel) rfl, ⟨by decide, by decide⟩, by decide +kernel, by decide⟩, atG 1035 (by decide +kernel) rfl, atG 1036 (by decide +kernel) rfl⟩
theorem lk_Da_94 : Cond.methodLink "ShadeTown$Day" 94 ⟨"ShadeTown$Law", "askBuyer", "(II)V"⟩ ∈ tblG := atG 1034 (by decide +kernel) rfl
theorem d_Da_worthOf_16 : decode prog_3_method_19_code 16 = .ok (.aload_n 0, 1) := by decide +kernel
theorem d_Da_worthOf_17 : decode prog_3_method_19_code 17 = .ok (.getfield 45, 3) := by decide +kernel
theorem d_Da_worthOf_20 : decode prog_3_method_19_code 20 = .ok (.bipush 119, 2) := by decide +kernel
theorem d_Da_worthOf_22 : decode prog_3_method_19_code 22 = .ok (.iconst 0, 1) := by decide +kernel
theorem d_Da_worthOf_23 : decode prog_3_method_19_code 23 = .ok (.sipush 999, 3) := by decide +kernel
theorem d_Da_worthOf_26 : decode prog_3_method_19_code 26 = .ok (.invokevirtual 90, 3) := by decide +kernel
theorem d_Da_worthOf_29 : decode prog_3_method_19_code 29 = .ok (.ireturn, 1) := by decide +kernel
def f_Da_worthOf (N : Nat) (σ : Mem) (a1 : Int32) (a2 : Int32) (a3 : Int32) (a4 : Int32) : Option (Int32 × Mem) :=
  bnd1 (f_Da_askSquare N σ a1 a2) fun σ3 =>
  bnd1 (f_La_askBuyer σ3 a3 a4) fun σ13 =>
  bnd2 (f_La_valueOf N σ13 119 0 999) fun r26 σ26 =>
  some (r26, σ26)
set_option maxHeartbeats 4000000 in
set_option maxRecDepth 20000 in
theorem c_Da_worthOf (Z : ZX) {N : Nat} {σ : Mem} {a1 : Int32} {a2 : Int32} {a3 : Int32} {a4 : Int32} {r : Int32} {σ' : Mem} (h : f_Da_worthOf N σ a1 a2 a3 a4 = some (r, σ')) : CI Z 3 m_Da_worthOf [rf Z 33, .int a1, .int a2, .int a3, .int a4] σ r σ' := by
  refine Ct.of (by decide +kernel) (Nat.le_of_ble_eq_true rfl) (fun Y => ?_)
  show V (mkB Z) Y m_Da_worthOf 3 (QP (mkB Z) Y nC 0 0 (fun v t => v = some (.int r) ∧ t = σ')) 0 0 nC σ 0 [(0, rf Z 33), (1, .int a1), (2, .int a2), (3, .int a3), (4, .int a4)] []
  unfold f_Da_worthOf at h
  refine V.aload_n d_Da_worthOf_0 rfl 0 rfl ?_
  refine V.iload_n d_Da_worthOf_1 rfl 1 rfl ?_
  refine V.iload_n d_Da_worthOf_2 rfl 2 rfl ?_
  obtain ⟨σ3, h1, h⟩ := bnd1_e h
  refine V.vN (as := [.int a1, .int a2]) (st := []) (c_Da_askSquare Z h1) k_Da_askSquare lk_Da_89 (by decide) rfl (by decide) ly_33 ok_Da.1 rfl (Nat.le_of_ble_eq_true rfl) d_Da_worthOf_3 ?_
  refine V.aload_n d_Da_worthOf_6 rfl 0 rfl ?_
  refine V.getR (r := 3) ok_Da fl_Da_45 (by decide) (by decide) ly_33 rfl d_Da_worthOf_7 ?_
  refine V.iload_n d_Da_worthOf_10 rfl 3 rfl ?_
  refine V.iload d_Da_worthOf_11 4 rfl ?_
  obtain ⟨σ13, h1, h⟩ := bnd1_e h
  refine V.vN (as := [.int a3, .int a4]) (st := []) (c_La_askBuyer Z h1) k_La_askBuyer lk_Da_94 (by decide) rfl (by decide) ly_3 ok_La.1 rfl (Nat.le_of_ble_eq_true rfl) d_Da_worthOf_13 ?_
  refine V.aload_n d_Da_worthOf_16 rfl 0 rfl ?_
  refine V.getR (r := 3) ok_Da fl_Da_45 (by decide) (by decide) ly_33 rfl d_Da_worthOf_17 ?_
  refine V.bipush (v := 119) d_Da_worthOf_20 (by decide) ?_
  refine V.iconst (v := 0) d_Da_worthOf_22 (by decide) ?_
  refine V.sipush (v := 999) d_Da_worthOf_23 (by decide) ?_
  obtain ⟨r26, σ26, h1, h⟩ := bnd2_e h
  refine V.vI (as := [.int 119, .int 0, .int 999]) (st := []) (c_La_valueOf Z h1) k_La_valueOf lk_Da_90 (by decide) rfl (by decide) ly_3 ok_La.1 rfl (Nat.le_of_ble_eq_true rfl) d_Da_worthOf_26 ?_
  cases h
  exact V.iret rfl d_Da_worthOf_29 ⟨rfl, rfl⟩
abbrev m_Ma_worthOf : MI := (⟨"ShadeTown$Market", "worthOf", "(LShadeTown$Day;III)I"⟩, prog_6_method_7_code, 7, (Option.some Jvm.ClassFile.FieldType.int))
theorem d_Ma_worthOf_0 : decode prog_6_method_7_code 0 = .ok (.aload_n 0, 1) := by decide +kernel
theorem d_Ma_worthOf_1 : decode prog_6_method_7_code 1 = .ok (.iload_n 2, 1) := by decide +kernel
theorem d_Ma_worthOf_2 : decode prog_6_method_7_code 2 = .ok (.invokevirtual 48, 3) := by decide +kernel
theorem d_Ma_worthOf_10 : decode prog_6_method_7_code 10 = .ok (.iload_n 3, 1) := by decide +kernel
theorem d_Ma_worthOf_11 : decode prog_6_method_7_code 11 = .ok (.bipush 12, 2) := by decide +kernel
theorem d_Ma_worthOf_13 : decode prog_6_method_7_code 13 = .ok (.irem, 1) := by decide +kernel
theorem d_Ma_worthOf_14 : decode prog_6_method_7_code 14 = .ok (.aload_n 0, 1) := by decide +kernel
theorem d_Ma_worthOf_15 : decode prog_6_method_7_code 15 = .ok (.getfield 11, 3) := by decide +kernel
theorem d_Ma_worthOf_18 : decode prog_6_method_7_code 18 = .ok (.iload_n 2, 1) := by decide +kernel
theorem d_Ma_worthOf_19 : decode prog_6_method_7_code 19 = .ok (.iaload, 1) := by decide +kernel
theorem d_Ma_worthOf_20 : decode prog_6_method_7_code 20 = .ok (.bipush 12, 2) := by decide +kernel
theorem d_Ma_worthOf_22 : decode prog_6_method_7_code 22 = .ok (.irem, 1) := by decide +kernel
theorem d_Ma_worthOf_23 : decode prog_6_method_7_code 23 = .ok (.isub, 1) := by decide +kernel
theorem d_Ma_worthOf_24 : decode prog_6_method_7_code 24 = .ok (.invokestatic 58, 3) := by decide +kernel
theorem lk_Ma_58 : Cond.methodLink "ShadeTown$Market" 58 ⟨"java/lang/Math", "abs", "(I)I"⟩ ∈ tblG := atG 1029 (by decide +kernel) rfl
theorem d_Ma_worthOf_27 : decode prog_6_method_7_code 27 = .ok (.istore 5, 2) := by decide +kernel
theorem d_Ma_worthOf_29 : decode prog_6_method_7_code 29 = .ok (.iload_n 3, 1) := by decide +kernel
theorem d_Ma_worthOf_30 : decode prog_6_method_7_code 30 = .ok (.bipush 12, 2) := by decide +kernel
theorem d_Ma_worthOf_32 : decode prog_6_method_7_code 32 = .ok (.idiv, 1) := by decide +kernel
theorem d_Ma_worthOf_33 : decode prog_6_method_7_code 33 = .ok (.aload_n 0, 1) := by decide +kernel
theorem d_Ma_worthOf_34 : decode prog_6_method_7_code 34 = .ok (.getfield 11, 3) := by decide +kernel
theorem d_Ma_worthOf_37 : decode prog_6_method_7_code 37 = .ok (.iload_n 2, 1) := by decide +kernel
theorem d_Ma_worthOf_38 : decode prog_6_method_7_code 38 = .ok (.iaload, 1) := by decide +kernel
theorem d_Ma_worthOf_39 : decode prog_6_method_7_code 39 = .ok (.bipush 12, 2) := by decide +kernel
theorem d_Ma_worthOf_41 : decode prog_6_method_7_code 41 = .ok (.idiv, 1) := by decide +kernel
theorem d_Ma_worthOf_42 : decode prog_6_method_7_code 42 = .ok (.isub, 1) := by decide +kernel
theorem d_Ma_worthOf_43 : decode prog_6_method_7_code 43 = .ok (.invokestatic 58, 3) := by decide +kernel
theorem d_Ma_worthOf_46 : decode prog_6_method_7_code 46 = .ok (.istore 6, 2) := by decide +kernel
theorem d_Ma_worthOf_48 : decode prog_6_method_7_code 48 = .ok (.aload_n 1, 1) := by decide +kernel
theorem d_Ma_worthOf_49 : decode prog_6_method_7_code 49 = .ok (.iload 4, 2) := by decide +kernel
theorem d_Ma_worthOf_51 : decode prog_6_method_7_code 51 = .ok (.iload_n 3, 1) := by decide +kernel
theorem d_Ma_worthOf_52 : decode prog_6_method_7_code 52 = .ok (.iload_n 2, 1) := by decide +kernel
theorem d_Ma_worthOf_53 : decode prog_6_method_7_code 53 = .ok (.iload 5, 2) := by decide +kernel
theorem d_Ma_worthOf_55 : decode prog_6_method_7_code 55 = .ok (.iload 6, 2) := by decide +kernel
theorem d_Ma_worthOf_57 : decode prog_6_method_7_code 57 = .ok (.iadd, 1) := by decide +kernel
theorem d_Ma_worthOf_58 : decode prog_6_method_7_code 58 = .ok (.invokevirtual 63, 3) := by decide +kernel
theorem k_Da_worthOf : MOk m_Da_worthOf 4 ∧ IOk m_Da_worthOf := ⟨⟨atG 1033 (by decide +kernel) rfl, atG 116 (by decide +kernel) rfl, ⟨by decide, by decide⟩, by decide +kernel, by decide⟩, atG 1031 (by decide +kernel) rfl, atG 1032 (by decide +kernel) rfl⟩
theorem lk_Ma_63 : Cond.methodLink "ShadeTown$Market" 63 ⟨"ShadeTown$Day", "worthOf", "(IIII)I"⟩ ∈ tblG := atG 1030 (by decide +kernel) rfl
theorem d_Ma_worthOf_61 : decode prog_6_method_7_code 61 = .ok (.ireturn, 1) := by decide +kernel
theorem d_Ma_worthOf_8 : decode prog_6_method_7_code 8 = .ok (.iconst (-1), 1) := by decide +kernel
theorem d_Ma_worthOf_9 : decode prog_6_method_7_code 9 = .ok (.ireturn, 1) := by decide +kernel
theorem d_Ma_worthOf_5 : decode prog_6_method_7_code 5 = .ok (.ifCond .ne 5, 3) := by decide +kernel
def f_Ma_worthOf (N : Nat) (σ : Mem) (a2 : Int32) (a3 : Int32) (a4 : Int32) : Option (Int32 × Mem) :=
  bnd1 (f_Ma_isNumber a2) fun r2 =>
  if r2 = 0 then
    (some ((-1), σ))
  else
    (grd (inb a2 8) <|
    bnd1 (f_JM_abs_0f7a4 ((a3 - a3 / 12 * 12) - ((mI σ 48 (a2.toNatClampNeg)) - (mI σ 48 (a2.toNatClampNeg)) / 12 * 12))) fun r24 =>
    grd (inb a2 8) <|
    bnd1 (f_JM_abs_0f7a4 ((a3 / 12) - ((mI σ 48 (a2.toNatClampNeg)) / 12))) fun r43 =>
    bnd2 (f_Da_worthOf N σ a4 a3 a2 (r24 + r43)) fun r58 σ58 =>
    some (r58, σ58))
set_option maxHeartbeats 4000000 in
set_option maxRecDepth 20000 in
theorem c_Ma_worthOf (Z : ZX) {N : Nat} {σ : Mem} {a2 : Int32} {a3 : Int32} {a4 : Int32} {r : Int32} {σ' : Mem} (h : f_Ma_worthOf N σ a2 a3 a4 = some (r, σ')) : CI Z 4 m_Ma_worthOf [rf Z 47, rf Z 33, .int a2, .int a3, .int a4] σ r σ' := by
  refine Ct.of (by decide +kernel) (Nat.le_of_ble_eq_true rfl) (fun Y => ?_)
  show V (mkB Z) Y m_Ma_worthOf 4 (QP (mkB Z) Y nC 0 0 (fun v t => v = some (.int r) ∧ t = σ')) 0 0 nC σ 0 [(0, rf Z 47), (1, rf Z 33), (2, .int a2), (3, .int a3), (4, .int a4)] []
  unfold f_Ma_worthOf at h
  refine V.aload_n d_Ma_worthOf_0 rfl 0 rfl ?_
  refine V.iload_n d_Ma_worthOf_1 rfl 2 rfl ?_
  obtain ⟨r2, h1, h⟩ := bnd1_e h
  refine V.vI (as := [.int a2]) (st := []) (c_Ma_isNumber Z h1) k_Ma_isNumber lk_Ma_48 (by decide) rfl (by decide) ly_47 ok_Ma.1 rfl (Nat.le_of_ble_eq_true rfl) d_Ma_worthOf_2 ?_
  refine V.if_ne (tgt := 10) d_Ma_worthOf_5 (by decide) (fun hc5 => ?_) (fun hc5 => ?_)
  · replace h := ite_f hc5 h
    refine V.iload_n d_Ma_worthOf_10 rfl 3 rfl ?_
    refine V.bipush (v := 12) d_Ma_worthOf_11 (by decide) ?_
    refine V.irem d_Ma_worthOf_13 (by decide) ?_
    refine V.aload_n d_Ma_worthOf_14 rfl 0 rfl ?_
    refine V.getR (r := 48) ok_Ma fl_Ma_11 (by decide) (by decide) ly_47 rfl d_Ma_worthOf_15 ?_
    refine V.iload_n d_Ma_worthOf_18 rfl 2 rfl ?_
    obtain ⟨gq, h⟩ := grd_e h
    refine V.ra (by decide) ly_48 (inb_e gq) rfl d_Ma_worthOf_19 ?_
    refine V.bipush (v := 12) d_Ma_worthOf_20 (by decide) ?_
    refine V.irem d_Ma_worthOf_22 (by decide) ?_
    refine V.isub d_Ma_worthOf_23 ?_
    obtain ⟨r24, h1, h⟩ := bnd1_e h
    refine V.sI (as := [.int ((a3 - a3 / 12 * 12) - ((mI σ 48 (a2.toNatClampNeg)) - (mI σ 48 (a2.toNatClampNeg)) / 12 * 12))]) (st := []) (c_JM_abs_0f7a4 Z h1) k_JM_abs_0f7a4 lk_Ma_58 (by decide) rfl rfl (Nat.le_of_ble_eq_true rfl) d_Ma_worthOf_24 ?_
    refine V.istore (lv' := [(5, .int r24), (0, rf Z 47), (1, rf Z 33), (2, .int a2), (3, .int a3), (4, .int a4)]) d_Ma_worthOf_27 (by decide) rfl ?_
    refine V.iload_n d_Ma_worthOf_29 rfl 4 rfl ?_
    refine V.bipush (v := 12) d_Ma_worthOf_30 (by decide) ?_
    refine V.idiv d_Ma_worthOf_32 (by decide) ?_
    refine V.aload_n d_Ma_worthOf_33 rfl 1 rfl ?_
    refine V.getR (r := 48) ok_Ma fl_Ma_11 (by decide) (by decide) ly_47 rfl d_Ma_worthOf_34 ?_
    refine V.iload_n d_Ma_worthOf_37 rfl 3 rfl ?_
    obtain ⟨gq, h⟩ := grd_e h
    refine V.ra (by decide) ly_48 (inb_e gq) rfl d_Ma_worthOf_38 ?_
    refine V.bipush (v := 12) d_Ma_worthOf_39 (by decide) ?_
    refine V.idiv d_Ma_worthOf_41 (by decide) ?_
    refine V.isub d_Ma_worthOf_42 ?_
    obtain ⟨r43, h1, h⟩ := bnd1_e h
    refine V.sI (as := [.int ((a3 / 12) - ((mI σ 48 (a2.toNatClampNeg)) / 12))]) (st := []) (c_JM_abs_0f7a4 Z h1) k_JM_abs_0f7a4 lk_Ma_58 (by decide) rfl rfl (Nat.le_of_ble_eq_true rfl) d_Ma_worthOf_43 ?_
    refine V.istore (lv' := [(6, .int r43), (5, .int r24), (0, rf Z 47), (1, rf Z 33), (2, .int a2), (3, .int a3), (4, .int a4)]) d_Ma_worthOf_46 (by decide) rfl ?_
    refine V.aload_n d_Ma_worthOf_48 rfl 3 rfl ?_
    refine V.iload d_Ma_worthOf_49 6 rfl ?_
    refine V.iload_n d_Ma_worthOf_51 rfl 5 rfl ?_
    refine V.iload_n d_Ma_worthOf_52 rfl 4 rfl ?_
    refine V.iload d_Ma_worthOf_53 1 rfl ?_
    refine V.iload d_Ma_worthOf_55 0 rfl ?_
    refine V.iadd d_Ma_worthOf_57 ?_
    obtain ⟨r58, σ58, h1, h⟩ := bnd2_e h
    refine V.vI (as := [.int a4, .int a3, .int a2, .int (r24 + r43)]) (st := []) (c_Da_worthOf Z h1) k_Da_worthOf lk_Ma_63 (by decide) rfl (by decide) ly_33 ok_Da.1 rfl (Nat.le_of_ble_eq_true rfl) d_Ma_worthOf_58 ?_
    cases h
    exact V.iret rfl d_Ma_worthOf_61 ⟨rfl, rfl⟩
  · replace h := ite_t hc5 h
    refine V.iconst (v := (-1)) d_Ma_worthOf_8 (by decide) ?_
    cases h
    exact V.iret rfl d_Ma_worthOf_9 ⟨rfl, rfl⟩
abbrev m_Sh_worth : MI := (⟨"ShadeTown", "worth", "(IIII)I"⟩, prog_1_method_20_code, 5, (Option.some Jvm.ClassFile.FieldType.int))
theorem d_Sh_worth_0 : decode prog_1_method_20_code 0 = .ok (.aload_n 0, 1) := by decide +kernel
theorem d_Sh_worth_1 : decode prog_1_method_20_code 1 = .ok (.getfield 75, 3) := by decide +kernel
theorem d_Sh_worth_4 : decode prog_1_method_20_code 4 = .ok (.iload_n 1, 1) := by decide +kernel
theorem d_Sh_worth_5 : decode prog_1_method_20_code 5 = .ok (.invokevirtual 263, 3) := by decide +kernel
theorem k_Ma_isTold : MOk m_Ma_isTold 1 ∧ IOk m_Ma_isTold := ⟨⟨atG 1024 (by decide +kernel) rfl, atG 119 (by decide +kernel) rfl, ⟨by decide, by decide⟩, by decide +kernel, by decide⟩, atG 1022 (by decide +kernel) rfl, atG 1023 (by decide +kernel) rfl⟩
theorem lk_Sh_263 : Cond.methodLink "ShadeTown" 263 ⟨"ShadeTown$Market", "isTold", "(I)Z"⟩ ∈ tblG := atG 1021 (by decide +kernel) rfl
theorem d_Sh_worth_27 : decode prog_1_method_20_code 27 = .ok (.iconst (-1), 1) := by decide +kernel
theorem d_Sh_worth_28 : decode prog_1_method_20_code 28 = .ok (.ireturn, 1) := by decide +kernel
theorem d_Sh_worth_11 : decode prog_1_method_20_code 11 = .ok (.iload_n 2, 1) := by decide +kernel
theorem d_Sh_worth_12 : decode prog_1_method_20_code 12 = .ok (.iload_n 3, 1) := by decide +kernel
theorem d_Sh_worth_13 : decode prog_1_method_20_code 13 = .ok (.invokestatic 119, 3) := by decide +kernel
theorem d_Sh_worth_19 : decode prog_1_method_20_code 19 = .ok (.iload 4, 2) := by decide +kernel
theorem d_Sh_worth_21 : decode prog_1_method_20_code 21 = .ok (.invokestatic 178, 3) := by decide +kernel
theorem d_Sh_worth_29 : decode prog_1_method_20_code 29 = .ok (.aload_n 0, 1) := by decide +kernel
theorem d_Sh_worth_30 : decode prog_1_method_20_code 30 = .ok (.getfield 75, 3) := by decide +kernel
theorem d_Sh_worth_33 : decode prog_1_method_20_code 33 = .ok (.aload_n 0, 1) := by decide +kernel
theorem d_Sh_worth_34 : decode prog_1_method_20_code 34 = .ok (.invokevirtual 181, 3) := by decide +kernel
theorem d_Sh_worth_37 : decode prog_1_method_20_code 37 = .ok (.iload_n 1, 1) := by decide +kernel
theorem d_Sh_worth_38 : decode prog_1_method_20_code 38 = .ok (.bipush 12, 2) := by decide +kernel
theorem d_Sh_worth_40 : decode prog_1_method_20_code 40 = .ok (.iload_n 3, 1) := by decide +kernel
theorem d_Sh_worth_41 : decode prog_1_method_20_code 41 = .ok (.imul, 1) := by decide +kernel
theorem d_Sh_worth_42 : decode prog_1_method_20_code 42 = .ok (.iload_n 2, 1) := by decide +kernel
theorem d_Sh_worth_43 : decode prog_1_method_20_code 43 = .ok (.iadd, 1) := by decide +kernel
theorem d_Sh_worth_44 : decode prog_1_method_20_code 44 = .ok (.iload 4, 2) := by decide +kernel
theorem d_Sh_worth_46 : decode prog_1_method_20_code 46 = .ok (.invokevirtual 266, 3) := by decide +kernel
theorem k_Ma_worthOf : MOk m_Ma_worthOf 4 ∧ IOk m_Ma_worthOf := ⟨⟨atG 1028 (by decide +kernel) rfl, atG 119 (by decide +kernel) rfl, ⟨by decide, by decide⟩, by decide +kernel, by decide⟩, atG 1026 (by decide +kernel) rfl, atG 1027 (by decide +kernel) rfl⟩
theorem lk_Sh_266 : Cond.methodLink "ShadeTown" 266 ⟨"ShadeTown$Market", "worthOf", "(LShadeTown$Day;III)I"⟩ ∈ tblG := atG 1025 (by decide +kernel) rfl
theorem d_Sh_worth_49 : decode prog_1_method_20_code 49 = .ok (.ireturn, 1) := by decide +kernel
theorem d_Sh_worth_24 : decode prog_1_method_20_code 24 = .ok (.ifCond .ne 5, 3) := by decide +kernel
theorem d_Sh_worth_16 : decode prog_1_method_20_code 16 = .ok (.ifCond .eq 11, 3) := by decide +kernel
theorem d_Sh_worth_8 : decode prog_1_method_20_code 8 = .ok (.ifCond .eq 19, 3) := by decide +kernel
def f_Sh_worth (N : Nat) (σ : Mem) (a1 : Int32) (a2 : Int32) (a3 : Int32) (a4 : Int32) : Option (Int32 × Mem) :=
  bnd1 (f_Ma_isTold σ a1) fun r5 =>
  if r5 = 0 then
    (some ((-1), σ))
  else
    (bnd1 (f_Sh_inTown a2 a3) fun r13 =>
    if r13 = 0 then
      (some ((-1), σ))
    else
      (bnd1 (f_Sh_isHour a4) fun r21 =>
      if r21 = 0 then
        (some ((-1), σ))
      else
        (bnd1 (f_Sh_today N σ) fun σ34 =>
        bnd2 (f_Ma_worthOf N σ34 a1 ((12 * a3) + a2) a4) fun r46 σ46 =>
        some (r46, σ46))))
set_option maxHeartbeats 4000000 in
set_option maxRecDepth 20000 in
theorem c_Sh_worth (Z : ZX) {N : Nat} {σ : Mem} {a1 : Int32} {a2 : Int32} {a3 : Int32} {a4 : Int32} {r : Int32} {σ' : Mem} (h : f_Sh_worth N σ a1 a2 a3 a4 = some (r, σ')) : CI Z 6 m_Sh_worth [rf Z 0, .int a1, .int a2, .int a3, .int a4] σ r σ' := by
  refine Ct.of (by decide +kernel) (Nat.le_of_ble_eq_true rfl) (fun Y => ?_)
  show V (mkB Z) Y m_Sh_worth 6 (QP (mkB Z) Y nC 0 0 (fun v t => v = some (.int r) ∧ t = σ')) 0 0 nC σ 0 [(0, rf Z 0), (1, .int a1), (2, .int a2), (3, .int a3), (4, .int a4)] []
  unfold f_Sh_worth at h
  refine V.aload_n d_Sh_worth_0 rfl 0 rfl ?_
  refine V.getR (r := 47) ok_Sh fl_Sh_75 (by decide) (by decide) ly_0 rfl d_Sh_worth_1 ?_
  refine V.iload_n d_Sh_worth_4 rfl 1 rfl ?_
  obtain ⟨r5, h1, h⟩ := bnd1_e h
  refine V.vI (as := [.int a1]) (st := []) (c_Ma_isTold Z h1) k_Ma_isTold lk_Sh_263 (by decide) rfl (by decide) ly_47 ok_Ma.1 rfl (Nat.le_of_ble_eq_true rfl) d_Sh_worth_5 ?_
  refine V.if_eq (tgt := 27) d_Sh_worth_8 (by decide) (fun hc8 => ?_) (fun hc8 => ?_)
  · replace h := ite_t hc8 h
    refine V.iconst (v := (-1)) d_Sh_worth_27 (by decide) ?_
    cases h
    exact V.iret rfl d_Sh_worth_28 ⟨rfl, rfl⟩
  · replace h := ite_f hc8 h
    refine V.iload_n d_Sh_worth_11 rfl 2 rfl ?_
    refine V.iload_n d_Sh_worth_12 rfl 3 rfl ?_
    obtain ⟨r13, h1, h⟩ := bnd1_e h
    refine V.sI (as := [.int a2, .int a3]) (st := []) (c_Sh_inTown Z h1) k_Sh_inTown lk_Sh_119 (by decide) rfl rfl (Nat.le_of_ble_eq_true rfl) d_Sh_worth_13 ?_
    refine V.if_eq (tgt := 27) d_Sh_worth_16 (by decide) (fun hc16 => ?_) (fun hc16 => ?_)
    · replace h := ite_t hc16 h
      refine V.iconst (v := (-1)) d_Sh_worth_27 (by decide) ?_
      cases h
      exact V.iret rfl d_Sh_worth_28 ⟨rfl, rfl⟩
    · replace h := ite_f hc16 h
      refine V.iload d_Sh_worth_19 4 rfl ?_
      obtain ⟨r21, h1, h⟩ := bnd1_e h
      refine V.sI (as := [.int a4]) (st := []) (c_Sh_isHour Z h1) k_Sh_isHour lk_Sh_178 (by decide) rfl rfl (Nat.le_of_ble_eq_true rfl) d_Sh_worth_21 ?_
      refine V.if_ne (tgt := 29) d_Sh_worth_24 (by decide) (fun hc24 => ?_) (fun hc24 => ?_)
      · replace h := ite_f hc24 h
        refine V.aload_n d_Sh_worth_29 rfl 0 rfl ?_
        refine V.getR (r := 47) ok_Sh fl_Sh_75 (by decide) (by decide) ly_0 rfl d_Sh_worth_30 ?_
        refine V.aload_n d_Sh_worth_33 rfl 0 rfl ?_
        obtain ⟨σ34, h1, h⟩ := bnd1_e h
        refine V.vA (as := []) (st := [rf Z 47]) (c_Sh_today Z h1) k_Sh_today lk_Sh_181 (by decide) rfl (by decide) ly_0 ok_Sh.1 rfl (Nat.le_of_ble_eq_true rfl) d_Sh_worth_34 ?_
        refine V.iload_n d_Sh_worth_37 rfl 1 rfl ?_
        refine V.bipush (v := 12) d_Sh_worth_38 (by decide) ?_
        refine V.iload_n d_Sh_worth_40 rfl 3 rfl ?_
        refine V.imul d_Sh_worth_41 ?_
        refine V.iload_n d_Sh_worth_42 rfl 2 rfl ?_
        refine V.iadd d_Sh_worth_43 ?_
        refine V.iload d_Sh_worth_44 4 rfl ?_
        obtain ⟨r46, σ46, h1, h⟩ := bnd2_e h
        refine V.vI (as := [rf Z 33, .int a1, .int ((12 * a3) + a2), .int a4]) (st := []) (c_Ma_worthOf Z h1) k_Ma_worthOf lk_Sh_266 (by decide) rfl (by decide) ly_47 ok_Ma.1 rfl (Nat.le_of_ble_eq_true rfl) d_Sh_worth_46 ?_
        cases h
        exact V.iret rfl d_Sh_worth_49 ⟨rfl, rfl⟩
      · replace h := ite_t hc24 h
        refine V.iconst (v := (-1)) d_Sh_worth_27 (by decide) ?_
        cases h
        exact V.iret rfl d_Sh_worth_28 ⟨rfl, rfl⟩
abbrev m_Ma_areTold : MI := (⟨"ShadeTown$Market", "areTold", "(I)Z"⟩, prog_6_method_4_code, 2, (Option.some Jvm.ClassFile.FieldType.boolean))
theorem d_Ma_areTold_0 : decode prog_6_method_4_code 0 = .ok (.iload_n 1, 1) := by decide +kernel
theorem d_Ma_areTold_1 : decode prog_6_method_4_code 1 = .ok (.aload_n 0, 1) := by decide +kernel
theorem d_Ma_areTold_2 : decode prog_6_method_4_code 2 = .ok (.getfield 15, 3) := by decide +kernel
theorem d_Ma_areTold_5 : decode prog_6_method_4_code 5 = .ok (.iconst (-1), 1) := by decide +kernel
theorem d_Ma_areTold_6 : decode prog_6_method_4_code 6 = .ok (.ixor, 1) := by decide +kernel
theorem d_Ma_areTold_7 : decode prog_6_method_4_code 7 = .ok (.iand, 1) := by decide +kernel
theorem d_Ma_areTold_15 : decode prog_6_method_4_code 15 = .ok (.iconst 0, 1) := by decide +kernel
theorem d_Ma_areTold_16 : decode prog_6_method_4_code 16 = .ok (.ireturn, 1) := by decide +kernel
theorem d_Ma_areTold_11 : decode prog_6_method_4_code 11 = .ok (.iconst 1, 1) := by decide +kernel
theorem d_Ma_areTold_12 : decode prog_6_method_4_code 12 = .ok (.goto 4, 3) := by decide +kernel
theorem d_Ma_areTold_8 : decode prog_6_method_4_code 8 = .ok (.ifCond .ne 7, 3) := by decide +kernel
def f_Ma_areTold (σ : Mem) (a1 : Int32) : Option (Int32) :=
  if (a1 &&& ((mI σ 47 1) ^^^ (-1))) = 0 then
    (some 1)
  else
    (some 0)
set_option maxHeartbeats 4000000 in
set_option maxRecDepth 20000 in
theorem c_Ma_areTold (Z : ZX) {σ : Mem} {a1 : Int32} {r : Int32} (h : f_Ma_areTold σ a1 = some r) : CI Z 0 m_Ma_areTold [rf Z 47, .int a1] σ r σ := by
  refine Ct.of (by decide +kernel) (Nat.le_of_ble_eq_true rfl) (fun Y => ?_)
  show V (mkB Z) Y m_Ma_areTold 0 (QP (mkB Z) Y nC 0 0 (fun v t => v = some (.int r) ∧ t = σ)) 0 0 nC σ 0 [(0, rf Z 47), (1, .int a1)] []
  unfold f_Ma_areTold at h
  refine V.iload_n d_Ma_areTold_0 rfl 1 rfl ?_
  refine V.aload_n d_Ma_areTold_1 rfl 0 rfl ?_
  refine V.getI ok_Ma fl_Ma_15 (by decide) (by decide) ly_47 rfl d_Ma_areTold_2 ?_
  refine V.iconst (v := (-1)) d_Ma_areTold_5 (by decide) ?_
  refine V.ixor d_Ma_areTold_6 ?_
  refine V.iand d_Ma_areTold_7 ?_
  refine V.if_ne (tgt := 15) d_Ma_areTold_8 (by decide) (fun hc8 => ?_) (fun hc8 => ?_)
  · replace h := ite_f hc8 h
    refine V.iconst (v := 0) d_Ma_areTold_15 (by decide) ?_
    cases h
    exact V.zret rfl rfl d_Ma_areTold_16 ⟨rfl, rfl⟩
  · replace h := ite_t hc8 h
    refine V.iconst (v := 1) d_Ma_areTold_11 (by decide) ?_
    refine V.goto (tgt := 16) d_Ma_areTold_12 (by decide) ?_
    cases h
    exact V.zret rfl rfl d_Ma_areTold_16 ⟨rfl, rfl⟩
abbrev m_Ma_want : MI := (⟨"ShadeTown$Market", "want", "(III)V"⟩, prog_6_method_15_code, 7, (Option.none : Option Jvm.ClassFile.FieldType))
theorem d_Ma_want_0 : decode prog_6_method_15_code 0 = .ok (.iload_n 1, 1) := by decide +kernel
theorem d_Ma_want_1 : decode prog_6_method_15_code 1 = .ok (.bipush 8, 2) := by decide +kernel
theorem d_Ma_want_3 : decode prog_6_method_15_code 3 = .ok (.imul, 1) := by decide +kernel
theorem d_Ma_want_4 : decode prog_6_method_15_code 4 = .ok (.istore 4, 2) := by decide +kernel
theorem d_Ma_want_6 : decode prog_6_method_15_code 6 = .ok (.aload_n 0, 1) := by decide +kernel
theorem fl_Ma_25 : FL "ShadeTown$Market" 25 T_Ma 4 := atG 350 (by decide +kernel) rfl
theorem d_Ma_want_7 : decode prog_6_method_15_code 7 = .ok (.getfield 25, 3) := by decide +kernel
theorem d_Ma_want_10 : decode prog_6_method_15_code 10 = .ok (.iload_n 1, 1) := by decide +kernel
theorem d_Ma_want_11 : decode prog_6_method_15_code 11 = .ok (.iaload, 1) := by decide +kernel
theorem d_Ma_want_12 : decode prog_6_method_15_code 12 = .ok (.bipush 8, 2) := by decide +kernel
theorem d_Ma_want_138 : decode prog_6_method_15_code 138 = .ok (.aload_n 0, 1) := by decide +kernel
theorem fl_Ma_19 : FL "ShadeTown$Market" 19 T_Ma 2 := atG 348 (by decide +kernel) rfl
theorem d_Ma_want_139 : decode prog_6_method_15_code 139 = .ok (.getfield 19, 3) := by decide +kernel
theorem d_Ma_want_142 : decode prog_6_method_15_code 142 = .ok (.iload 4, 2) := by decide +kernel
theorem d_Ma_want_144 : decode prog_6_method_15_code 144 = .ok (.aload_n 0, 1) := by decide +kernel
theorem d_Ma_want_145 : decode prog_6_method_15_code 145 = .ok (.getfield 25, 3) := by decide +kernel
theorem d_Ma_want_148 : decode prog_6_method_15_code 148 = .ok (.iload_n 1, 1) := by decide +kernel
theorem d_Ma_want_149 : decode prog_6_method_15_code 149 = .ok (.iaload, 1) := by decide +kernel
theorem d_Ma_want_150 : decode prog_6_method_15_code 150 = .ok (.iadd, 1) := by decide +kernel
theorem d_Ma_want_151 : decode prog_6_method_15_code 151 = .ok (.iload_n 2, 1) := by decide +kernel
theorem d_Ma_want_152 : decode prog_6_method_15_code 152 = .ok (.iastore, 1) := by decide +kernel
theorem d_Ma_want_153 : decode prog_6_method_15_code 153 = .ok (.aload_n 0, 1) := by decide +kernel
theorem fl_Ma_22 : FL "ShadeTown$Market" 22 T_Ma 3 := atG 349 (by decide +kernel) rfl
theorem d_Ma_want_154 : decode prog_6_method_15_code 154 = .ok (.getfield 22, 3) := by decide +kernel
theorem d_Ma_want_157 : decode prog_6_method_15_code 157 = .ok (.iload 4, 2) := by decide +kernel
theorem d_Ma_want_159 : decode prog_6_method_15_code 159 = .ok (.aload_n 0, 1) := by decide +kernel
theorem d_Ma_want_160 : decode prog_6_method_15_code 160 = .ok (.getfield 25, 3) := by decide +kernel
theorem d_Ma_want_163 : decode prog_6_method_15_code 163 = .ok (.iload_n 1, 1) := by decide +kernel
theorem d_Ma_want_164 : decode prog_6_method_15_code 164 = .ok (.iaload, 1) := by decide +kernel
theorem d_Ma_want_165 : decode prog_6_method_15_code 165 = .ok (.iadd, 1) := by decide +kernel
theorem d_Ma_want_166 : decode prog_6_method_15_code 166 = .ok (.iload_n 3, 1) := by decide +kernel
theorem d_Ma_want_167 : decode prog_6_method_15_code 167 = .ok (.iastore, 1) := by decide +kernel
theorem d_Ma_want_168 : decode prog_6_method_15_code 168 = .ok (.aload_n 0, 1) := by decide +kernel
theorem d_Ma_want_169 : decode prog_6_method_15_code 169 = .ok (.getfield 25, 3) := by decide +kernel
theorem d_Ma_want_172 : decode prog_6_method_15_code 172 = .ok (.iload_n 1, 1) := by decide +kernel
theorem d_Ma_want_173 : decode prog_6_method_15_code 173 = .ok (.dup2, 1) := by decide +kernel
theorem d_Ma_want_174 : decode prog_6_method_15_code 174 = .ok (.iaload, 1) := by decide +kernel
theorem d_Ma_want_175 : decode prog_6_method_15_code 175 = .ok (.iconst 1, 1) := by decide +kernel
theorem d_Ma_want_176 : decode prog_6_method_15_code 176 = .ok (.iadd, 1) := by decide +kernel
theorem d_Ma_want_177 : decode prog_6_method_15_code 177 = .ok (.iastore, 1) := by decide +kernel
theorem d_Ma_want_178 : decode prog_6_method_15_code 178 = .ok (.return_, 1) := by decide +kernel
theorem d_Ma_want_17 : decode prog_6_method_15_code 17 = .ok (.iload 4, 2) := by decide +kernel
theorem d_Ma_want_19 : decode prog_6_method_15_code 19 = .ok (.istore 5, 2) := by decide +kernel
theorem d_Ma_want_21 : decode prog_6_method_15_code 21 = .ok (.iload 4, 2) := by decide +kernel
theorem d_Ma_want_23 : decode prog_6_method_15_code 23 = .ok (.iconst 1, 1) := by decide +kernel
theorem d_Ma_want_24 : decode prog_6_method_15_code 24 = .ok (.iadd, 1) := by decide +kernel
theorem d_Ma_want_25 : decode prog_6_method_15_code 25 = .ok (.istore 6, 2) := by decide +kernel
theorem d_Ma_want_27 : decode prog_6_method_15_code 27 = .ok (.iload 6, 2) := by decide +kernel
theorem d_Ma_want_29 : decode prog_6_method_15_code 29 = .ok (.iload 4, 2) := by decide +kernel
theorem d_Ma_want_31 : decode prog_6_method_15_code 31 = .ok (.bipush 8, 2) := by decide +kernel
theorem d_Ma_want_33 : decode prog_6_method_15_code 33 = .ok (.iadd, 1) := by decide +kernel
theorem d_Ma_want_37 : decode prog_6_method_15_code 37 = .ok (.aload_n 0, 1) := by decide +kernel
theorem d_Ma_want_38 : decode prog_6_method_15_code 38 = .ok (.getfield 22, 3) := by decide +kernel
theorem d_Ma_want_41 : decode prog_6_method_15_code 41 = .ok (.iload 6, 2) := by decide +kernel
theorem d_Ma_want_43 : decode prog_6_method_15_code 43 = .ok (.iaload, 1) := by decide +kernel
theorem d_Ma_want_44 : decode prog_6_method_15_code 44 = .ok (.aload_n 0, 1) := by decide +kernel
theorem d_Ma_want_45 : decode prog_6_method_15_code 45 = .ok (.getfield 22, 3) := by decide +kernel
theorem d_Ma_want_48 : decode prog_6_method_15_code 48 = .ok (.iload 5, 2) := by decide +kernel
theorem d_Ma_want_50 : decode prog_6_method_15_code 50 = .ok (.iaload, 1) := by decide +kernel
theorem d_Ma_want_54 : decode prog_6_method_15_code 54 = .ok (.iload 6, 2) := by decide +kernel
theorem d_Ma_want_56 : decode prog_6_method_15_code 56 = .ok (.istore 5, 2) := by decide +kernel
theorem d_Ma_want_51 : decode prog_6_method_15_code 51 = .ok (.if_icmp .gt 7, 3) := by decide +kernel
theorem d_Ma_want_58 : decode prog_6_method_15_code 58 = .ok (.iinc 6 1, 3) := by decide +kernel
theorem d_Ma_want_61 : decode prog_6_method_15_code 61 = .ok (.goto (-34), 3) := by decide +kernel
theorem d_Ma_want_34 : decode prog_6_method_15_code 34 = .ok (.if_icmp .ge 30, 3) := by decide +kernel
theorem d_Ma_want_64 : decode prog_6_method_15_code 64 = .ok (.iload_n 3, 1) := by decide +kernel
theorem d_Ma_want_65 : decode prog_6_method_15_code 65 = .ok (.aload_n 0, 1) := by decide +kernel
theorem d_Ma_want_66 : decode prog_6_method_15_code 66 = .ok (.getfield 22, 3) := by decide +kernel
theorem d_Ma_want_69 : decode prog_6_method_15_code 69 = .ok (.iload 5, 2) := by decide +kernel
theorem d_Ma_want_71 : decode prog_6_method_15_code 71 = .ok (.iaload, 1) := by decide +kernel
theorem d_Ma_want_76 : decode prog_6_method_15_code 76 = .ok (.iload 5, 2) := by decide +kernel
theorem d_Ma_want_78 : decode prog_6_method_15_code 78 = .ok (.istore 6, 2) := by decide +kernel
theorem d_Ma_want_80 : decode prog_6_method_15_code 80 = .ok (.iload 6, 2) := by decide +kernel
theorem d_Ma_want_82 : decode prog_6_method_15_code 82 = .ok (.iload 4, 2) := by decide +kernel
theorem d_Ma_want_84 : decode prog_6_method_15_code 84 = .ok (.bipush 7, 2) := by decide +kernel
theorem d_Ma_want_86 : decode prog_6_method_15_code 86 = .ok (.iadd, 1) := by decide +kernel
theorem d_Ma_want_90 : decode prog_6_method_15_code 90 = .ok (.aload_n 0, 1) := by decide +kernel
theorem d_Ma_want_91 : decode prog_6_method_15_code 91 = .ok (.getfield 19, 3) := by decide +kernel
theorem d_Ma_want_94 : decode prog_6_method_15_code 94 = .ok (.iload 6, 2) := by decide +kernel
theorem d_Ma_want_96 : decode prog_6_method_15_code 96 = .ok (.aload_n 0, 1) := by decide +kernel
theorem d_Ma_want_97 : decode prog_6_method_15_code 97 = .ok (.getfield 19, 3) := by decide +kernel
theorem d_Ma_want_100 : decode prog_6_method_15_code 100 = .ok (.iload 6, 2) := by decide +kernel
theorem d_Ma_want_102 : decode prog_6_method_15_code 102 = .ok (.iconst 1, 1) := by decide +kernel
theorem d_Ma_want_103 : decode prog_6_method_15_code 103 = .ok (.iadd, 1) := by decide +kernel
theorem d_Ma_want_104 : decode prog_6_method_15_code 104 = .ok (.iaload, 1) := by decide +kernel
theorem d_Ma_want_105 : decode prog_6_method_15_code 105 = .ok (.iastore, 1) := by decide +kernel
theorem d_Ma_want_106 : decode prog_6_method_15_code 106 = .ok (.aload_n 0, 1) := by decide +kernel
theorem d_Ma_want_107 : decode prog_6_method_15_code 107 = .ok (.getfield 22, 3) := by decide +kernel
theorem d_Ma_want_110 : decode prog_6_method_15_code 110 = .ok (.iload 6, 2) := by decide +kernel
theorem d_Ma_want_112 : decode prog_6_method_15_code 112 = .ok (.aload_n 0, 1) := by decide +kernel
theorem d_Ma_want_113 : decode prog_6_method_15_code 113 = .ok (.getfield 22, 3) := by decide +kernel
theorem d_Ma_want_116 : decode prog_6_method_15_code 116 = .ok (.iload 6, 2) := by decide +kernel
theorem d_Ma_want_118 : decode prog_6_method_15_code 118 = .ok (.iconst 1, 1) := by decide +kernel
theorem d_Ma_want_119 : decode prog_6_method_15_code 119 = .ok (.iadd, 1) := by decide +kernel
theorem d_Ma_want_120 : decode prog_6_method_15_code 120 = .ok (.iaload, 1) := by decide +kernel
theorem d_Ma_want_121 : decode prog_6_method_15_code 121 = .ok (.iastore, 1) := by decide +kernel
theorem d_Ma_want_122 : decode prog_6_method_15_code 122 = .ok (.iinc 6 1, 3) := by decide +kernel
theorem d_Ma_want_125 : decode prog_6_method_15_code 125 = .ok (.goto (-45), 3) := by decide +kernel
theorem d_Ma_want_87 : decode prog_6_method_15_code 87 = .ok (.if_icmp .ge 41, 3) := by decide +kernel
theorem d_Ma_want_128 : decode prog_6_method_15_code 128 = .ok (.aload_n 0, 1) := by decide +kernel
theorem d_Ma_want_129 : decode prog_6_method_15_code 129 = .ok (.getfield 25, 3) := by decide +kernel
theorem d_Ma_want_132 : decode prog_6_method_15_code 132 = .ok (.iload_n 1, 1) := by decide +kernel
theorem d_Ma_want_133 : decode prog_6_method_15_code 133 = .ok (.dup2, 1) := by decide +kernel
theorem d_Ma_want_134 : decode prog_6_method_15_code 134 = .ok (.iaload, 1) := by decide +kernel
theorem d_Ma_want_135 : decode prog_6_method_15_code 135 = .ok (.iconst 1, 1) := by decide +kernel
theorem d_Ma_want_136 : decode prog_6_method_15_code 136 = .ok (.isub, 1) := by decide +kernel
theorem d_Ma_want_137 : decode prog_6_method_15_code 137 = .ok (.iastore, 1) := by decide +kernel
theorem d_Ma_want_75 : decode prog_6_method_15_code 75 = .ok (.return_, 1) := by decide +kernel
theorem d_Ma_want_72 : decode prog_6_method_15_code 72 = .ok (.if_icmp .gt 4, 3) := by decide +kernel
theorem d_Ma_want_14 : decode prog_6_method_15_code 14 = .ok (.if_icmp .ne 124, 3) := by decide +kernel
def B_Ma_want_l27 (N : Nat) (a1 : Int32) (a2 : Int32) (a3 : Int32) (a4 : Int32) (σ : Mem) (rec : Int32 → Int32 → Option (Int32)) (x5 : Int32) (x6 : Int32) : Option (Int32) :=
  if (a4 + 8) ≤ x6 then
    (some x5)
  else
    (grd (inb x6 64) <|
    grd (inb x5 64) <|
    bnd1 ((
      if (mI σ 50 (x5.toNatClampNeg)) < (mI σ 50 (x6.toNatClampNeg)) then
        (some x5)
      else
        (some x6)) : Option (Int32)) fun y51_5 =>
    letv (x6 + 1) fun v58 =>
    rec y51_5 v58)
def L_Ma_want_l27 (N : Nat) (a1 : Int32) (a2 : Int32) (a3 : Int32) (a4 : Int32) (σ : Mem) : Nat → Int32 → Int32 → Option (Int32)
  | 0, _, _ => none
  | k + 1, x5, x6 => B_Ma_want_l27 N a1 a2 a3 a4 σ (L_Ma_want_l27 N a1 a2 a3 a4 σ k) x5 x6
set_option maxHeartbeats 4000000 in
set_option maxRecDepth 20000 in
theorem cL_Ma_want_l27 (Z : ZX) {Y : YX} {Q : State → Prop} {N : Nat} {a1 : Int32} {a2 : Int32} {a3 : Int32} {a4 : Int32} {σ : Mem} {Good : Int32 → Prop} (hE : ∀ (o5 : Int32), Good o5 → V (mkB Z) Y m_Ma_want 0 Q 0 0 nC σ 64 [(0, rf Z 47), (1, .int a1), (2, .int a2), (3, .int a3), (4, .int a4), (5, .int o5)] []) : ∀ (k : Nat) (x5 : Int32) (x6 : Int32) (res : Int32), L_Ma_want_l27 N a1 a2 a3 a4 σ k x5 x6 = some res → Good res → V (mkB Z) Y m_Ma_want 0 Q 0 0 nC σ 27 [(0, rf Z 47), (1, .int a1), (2, .int a2), (3, .int a3), (4, .int a4), (5, .int x5), (6, .int x6)] [] := by
  intro k
  induction k with
  | zero => intro x5 x6 res h; cases h
  | succ k ih =>
    intro x5 x6 res h hg
    replace h : B_Ma_want_l27 N a1 a2 a3 a4 σ (L_Ma_want_l27 N a1 a2 a3 a4 σ k) x5 x6 = some res := h
    unfold B_Ma_want_l27 at h
    refine V.iload d_Ma_want_27 6 rfl ?_
    refine V.iload d_Ma_want_29 4 rfl ?_
    refine V.bipush (v := 8) d_Ma_want_31 (by decide) ?_
    refine V.iadd d_Ma_want_33 ?_
    refine V.icmp_ge (tgt := 64) d_Ma_want_34 (by decide) (fun hc34 => ?_) (fun hc34 => ?_)
    · replace h := ite_t hc34 h
      cases h
      exact V.pick [0, 1, 2, 3, 4, 5] rfl (hE _ hg)
    · replace h := ite_f hc34 h
      refine V.aload_n d_Ma_want_37 rfl 0 rfl ?_
      refine V.getR (r := 50) ok_Ma fl_Ma_22 (by decide) (by decide) ly_47 rfl d_Ma_want_38 ?_
      refine V.iload d_Ma_want_41 6 rfl ?_
      obtain ⟨gq, h⟩ := grd_e h
      refine V.ra (by decide) ly_50 (inb_e gq) rfl d_Ma_want_43 ?_
      refine V.aload_n d_Ma_want_44 rfl 0 rfl ?_
      refine V.getR (r := 50) ok_Ma fl_Ma_22 (by decide) (by decide) ly_47 rfl d_Ma_want_45 ?_
      refine V.iload d_Ma_want_48 5 rfl ?_
      obtain ⟨gq, h⟩ := grd_e h
      refine V.ra (by decide) ly_50 (inb_e gq) rfl d_Ma_want_50 ?_
      obtain ⟨s51, h1, h⟩ := bnd1_e h
      have J51_58 : ∀ (y51_5 : Int32), s51 = y51_5 → V (mkB Z) Y m_Ma_want 0 Q 0 0 nC σ 58 [(0, rf Z 47), (1, .int a1), (2, .int a2), (3, .int a3), (4, .int a4), (5, .int y51_5), (6, .int x6)] [] := by
        intro y51_5 he
        rw [he] at h
        obtain ⟨v58, e_v58, h⟩ := letv_e h
        refine V.iinc (v := v58) (lv' := [(6, .int v58), (0, rf Z 47), (1, .int a1), (2, .int a2), (3, .int a3), (4, .int a4), (5, .int y51_5)]) d_Ma_want_58 6 rfl (by rw [e_v58]; rfl) (by decide) rfl ?_
        refine V.goto (tgt := 27) d_Ma_want_61 (by decide) ?_
        exact V.pick [1, 2, 3, 4, 5, 6, 0] rfl (ih _ _ _ h hg)
      replace h := h1
      refine V.icmp_gt (tgt := 58) d_Ma_want_51 (by decide) (fun hc51 => ?_) (fun hc51 => ?_)
      · replace h := ite_t hc51 h
        exact V.pick [0, 1, 2, 3, 4, 5, 6] rfl (J51_58 _ (Option.some.inj h).symm)
      · replace h := ite_f hc51 h
        refine V.iload d_Ma_want_54 6 rfl ?_
        refine V.istore (lv' := [(5, .int x6), (0, rf Z 47), (1, .int a1), (2, .int a2), (3, .int a3), (4, .int a4), (6, .int x6)]) d_Ma_want_56 (by decide) rfl ?_
        exact V.pick [1, 2, 3, 4, 5, 0, 6] rfl (J51_58 _ (Option.some.inj h).symm)
def B_Ma_want_l80 (N : Nat) (a1 : Int32) (a2 : Int32) (a3 : Int32) (a4 : Int32) (rec : Int32 → Mem → Option (Mem)) (x6 : Int32) (σ : Mem) : Option (Mem) :=
  if (a4 + 7) ≤ x6 then
    (some σ)
  else
    (grd (inb (x6 + 1) 64) <|
    grd (inb x6 64) <|
    letv (sI σ 49 (x6.toNatClampNeg) (mI σ 49 ((x6 + 1).toNatClampNeg))) fun σ105 =>
    grd (inb (x6 + 1) 64) <|
    grd (inb x6 64) <|
    letv (sI σ105 50 (x6.toNatClampNeg) (mI σ105 50 ((x6 + 1).toNatClampNeg))) fun σ121 =>
    letv (x6 + 1) fun v122 =>
    rec v122 σ121)
def L_Ma_want_l80 (N : Nat) (a1 : Int32) (a2 : Int32) (a3 : Int32) (a4 : Int32) : Nat → Int32 → Mem → Option (Mem)
  | 0, _, _ => none
  | k + 1, x6, σ => B_Ma_want_l80 N a1 a2 a3 a4 (L_Ma_want_l80 N a1 a2 a3 a4 k) x6 σ
set_option maxHeartbeats 4000000 in
set_option maxRecDepth 20000 in
theorem cL_Ma_want_l80 (Z : ZX) {Y : YX} {Q : State → Prop} {N : Nat} {a1 : Int32} {a2 : Int32} {a3 : Int32} {a4 : Int32} {Good : Mem → Prop} (hE : ∀ (σe : Mem), Good σe → V (mkB Z) Y m_Ma_want 0 Q 0 0 nC σe 128 [(0, rf Z 47), (1, .int a1), (2, .int a2), (3, .int a3), (4, .int a4)] []) : ∀ (k : Nat) (x6 : Int32) (σ : Mem) (res : Mem), L_Ma_want_l80 N a1 a2 a3 a4 k x6 σ = some res → Good res → V (mkB Z) Y m_Ma_want 0 Q 0 0 nC σ 80 [(0, rf Z 47), (1, .int a1), (2, .int a2), (3, .int a3), (4, .int a4), (6, .int x6)] [] := by
  intro k
  induction k with
  | zero => intro x6 σ res h; cases h
  | succ k ih =>
    intro x6 σ res h hg
    replace h : B_Ma_want_l80 N a1 a2 a3 a4 (L_Ma_want_l80 N a1 a2 a3 a4 k) x6 σ = some res := h
    unfold B_Ma_want_l80 at h
    refine V.iload d_Ma_want_80 5 rfl ?_
    refine V.iload d_Ma_want_82 4 rfl ?_
    refine V.bipush (v := 7) d_Ma_want_84 (by decide) ?_
    refine V.iadd d_Ma_want_86 ?_
    refine V.icmp_ge (tgt := 128) d_Ma_want_87 (by decide) (fun hc87 => ?_) (fun hc87 => ?_)
    · replace h := ite_t hc87 h
      cases h
      exact V.pick [0, 1, 2, 3, 4] rfl (hE _ hg)
    · replace h := ite_f hc87 h
      refine V.aload_n d_Ma_want_90 rfl 0 rfl ?_
      refine V.getR (r := 49) ok_Ma fl_Ma_19 (by decide) (by decide) ly_47 rfl d_Ma_want_91 ?_
      refine V.iload d_Ma_want_94 5 rfl ?_
      refine V.aload_n d_Ma_want_96 rfl 0 rfl ?_
      refine V.getR (r := 49) ok_Ma fl_Ma_19 (by decide) (by decide) ly_47 rfl d_Ma_want_97 ?_
      refine V.iload d_Ma_want_100 5 rfl ?_
      refine V.iconst (v := 1) d_Ma_want_102 (by decide) ?_
      refine V.iadd d_Ma_want_103 ?_
      obtain ⟨gq, h⟩ := grd_e h
      refine V.ra (by decide) ly_49 (inb_e gq) rfl d_Ma_want_104 ?_
      obtain ⟨gq, h⟩ := grd_e h
      obtain ⟨σ105, e_σ105, h⟩ := letv_e h
      refine V.wa (by decide) ly_49 (inb_e gq) rfl d_Ma_want_105 e_σ105 ?_
      refine V.aload_n d_Ma_want_106 rfl 0 rfl ?_
      refine V.getR (r := 50) ok_Ma fl_Ma_22 (by decide) (by decide) ly_47 rfl d_Ma_want_107 ?_
      refine V.iload d_Ma_want_110 5 rfl ?_
      refine V.aload_n d_Ma_want_112 rfl 0 rfl ?_
      refine V.getR (r := 50) ok_Ma fl_Ma_22 (by decide) (by decide) ly_47 rfl d_Ma_want_113 ?_
      refine V.iload d_Ma_want_116 5 rfl ?_
      refine V.iconst (v := 1) d_Ma_want_118 (by decide) ?_
      refine V.iadd d_Ma_want_119 ?_
      obtain ⟨gq, h⟩ := grd_e h
      refine V.ra (by decide) ly_50 (inb_e gq) rfl d_Ma_want_120 ?_
      obtain ⟨gq, h⟩ := grd_e h
      obtain ⟨σ121, e_σ121, h⟩ := letv_e h
      refine V.wa (by decide) ly_50 (inb_e gq) rfl d_Ma_want_121 e_σ121 ?_
      obtain ⟨v122, e_v122, h⟩ := letv_e h
      refine V.iinc (v := v122) (lv' := [(6, .int v122), (0, rf Z 47), (1, .int a1), (2, .int a2), (3, .int a3), (4, .int a4)]) d_Ma_want_122 5 rfl (by rw [e_v122]; rfl) (by decide) rfl ?_
      refine V.goto (tgt := 80) d_Ma_want_125 (by decide) ?_
      exact V.pick [1, 2, 3, 4, 5, 0] rfl (ih _ _ _ h hg)
def f_Ma_want (N : Nat) (σ : Mem) (a1 : Int32) (a2 : Int32) (a3 : Int32) : Option (Mem) :=
  letv (a1 * 8) fun v4 =>
  grd (inb a1 8) <|
  if (mI σ 51 (a1.toNatClampNeg)) = 8 then
    (letv (v4 + 1) fun v25 =>
    bnd1 (L_Ma_want_l27 N a1 a2 a3 v4 σ N v4 v25) fun z27_5 =>
    grd (inb z27_5 64) <|
    if (mI σ 50 (z27_5.toNatClampNeg)) < a3 then
      (bnd1 (L_Ma_want_l80 N a1 a2 a3 v4 N z27_5 σ) fun σ80_ =>
      grd (inb a1 8) <|
      grd (inb a1 8) <|
      letv (sI σ80_ 51 (a1.toNatClampNeg) ((mI σ80_ 51 (a1.toNatClampNeg)) - 1)) fun σ137 =>
      grd (inb a1 8) <|
      grd (inb (v4 + (mI σ137 51 (a1.toNatClampNeg))) 64) <|
      letv (sI σ137 49 ((v4 + (mI σ137 51 (a1.toNatClampNeg))).toNatClampNeg) a2) fun σ152 =>
      grd (inb a1 8) <|
      grd (inb (v4 + (mI σ152 51 (a1.toNatClampNeg))) 64) <|
      letv (sI σ152 50 ((v4 + (mI σ152 51 (a1.toNatClampNeg))).toNatClampNeg) a3) fun σ167 =>
      grd (inb a1 8) <|
      grd (inb a1 8) <|
      letv (sI σ167 51 (a1.toNatClampNeg) ((mI σ167 51 (a1.toNatClampNeg)) + 1)) fun σ177 =>
      some σ177)
    else
      (some σ))
  else
    (grd (inb a1 8) <|
    grd (inb (v4 + (mI σ 51 (a1.toNatClampNeg))) 64) <|
    letv (sI σ 49 ((v4 + (mI σ 51 (a1.toNatClampNeg))).toNatClampNeg) a2) fun σ152 =>
    grd (inb a1 8) <|
    grd (inb (v4 + (mI σ152 51 (a1.toNatClampNeg))) 64) <|
    letv (sI σ152 50 ((v4 + (mI σ152 51 (a1.toNatClampNeg))).toNatClampNeg) a3) fun σ167 =>
    grd (inb a1 8) <|
    grd (inb a1 8) <|
    letv (sI σ167 51 (a1.toNatClampNeg) ((mI σ167 51 (a1.toNatClampNeg)) + 1)) fun σ177 =>
    some σ177)
set_option maxHeartbeats 4000000 in
set_option maxRecDepth 20000 in
theorem c_Ma_want (Z : ZX) {N : Nat} {σ : Mem} {a1 : Int32} {a2 : Int32} {a3 : Int32} {σ' : Mem} (h : f_Ma_want N σ a1 a2 a3 = some σ') : CN Z 0 m_Ma_want [rf Z 47, .int a1, .int a2, .int a3] σ σ' := by
  refine Ct.of (by decide +kernel) (Nat.le_of_ble_eq_true rfl) (fun Y => ?_)
  show V (mkB Z) Y m_Ma_want 0 (QP (mkB Z) Y nC 0 0 (fun v t => v = none ∧ t = σ')) 0 0 nC σ 0 [(0, rf Z 47), (1, .int a1), (2, .int a2), (3, .int a3)] []
  unfold f_Ma_want at h
  refine V.iload_n d_Ma_want_0 rfl 1 rfl ?_
  refine V.bipush (v := 8) d_Ma_want_1 (by decide) ?_
  refine V.imul d_Ma_want_3 ?_
  obtain ⟨v4, e_v4, h⟩ := letv_e h
  refine V.topI e_v4 ?_
  refine V.istore (lv' := [(4, .int v4), (0, rf Z 47), (1, .int a1), (2, .int a2), (3, .int a3)]) d_Ma_want_4 (by decide) rfl ?_
  refine V.aload_n d_Ma_want_6 rfl 1 rfl ?_
  refine V.getR (r := 51) ok_Ma fl_Ma_25 (by decide) (by decide) ly_47 rfl d_Ma_want_7 ?_
  refine V.iload_n d_Ma_want_10 rfl 2 rfl ?_
  obtain ⟨gq, h⟩ := grd_e h
  refine V.ra (by decide) ly_51 (inb_e gq) rfl d_Ma_want_11 ?_
  refine V.bipush (v := 8) d_Ma_want_12 (by decide) ?_
  refine V.icmp_ne (tgt := 138) d_Ma_want_14 (by decide) (fun hc14 => ?_) (fun hc14 => ?_)
  · replace h := ite_f hc14 h
    refine V.aload_n d_Ma_want_138 rfl 1 rfl ?_
    refine V.getR (r := 49) ok_Ma fl_Ma_19 (by decide) (by decide) ly_47 rfl d_Ma_want_139 ?_
    refine V.iload d_Ma_want_142 0 rfl ?_
    refine V.aload_n d_Ma_want_144 rfl 1 rfl ?_
    refine V.getR (r := 51) ok_Ma fl_Ma_25 (by decide) (by decide) ly_47 rfl d_Ma_want_145 ?_
    refine V.iload_n d_Ma_want_148 rfl 2 rfl ?_
    obtain ⟨gq, h⟩ := grd_e h
    refine V.ra (by decide) ly_51 (inb_e gq) rfl d_Ma_want_149 ?_
    refine V.iadd d_Ma_want_150 ?_
    refine V.iload_n d_Ma_want_151 rfl 3 rfl ?_
    obtain ⟨gq, h⟩ := grd_e h
    obtain ⟨σ152, e_σ152, h⟩ := letv_e h
    refine V.wa (by decide) ly_49 (inb_e gq) rfl d_Ma_want_152 e_σ152 ?_
    refine V.aload_n d_Ma_want_153 rfl 1 rfl ?_
    refine V.getR (r := 50) ok_Ma fl_Ma_22 (by decide) (by decide) ly_47 rfl d_Ma_want_154 ?_
    refine V.iload d_Ma_want_157 0 rfl ?_
    refine V.aload_n d_Ma_want_159 rfl 1 rfl ?_
    refine V.getR (r := 51) ok_Ma fl_Ma_25 (by decide) (by decide) ly_47 rfl d_Ma_want_160 ?_
    refine V.iload_n d_Ma_want_163 rfl 2 rfl ?_
    obtain ⟨gq, h⟩ := grd_e h
    refine V.ra (by decide) ly_51 (inb_e gq) rfl d_Ma_want_164 ?_
    refine V.iadd d_Ma_want_165 ?_
    refine V.iload_n d_Ma_want_166 rfl 4 rfl ?_
    obtain ⟨gq, h⟩ := grd_e h
    obtain ⟨σ167, e_σ167, h⟩ := letv_e h
    refine V.wa (by decide) ly_50 (inb_e gq) rfl d_Ma_want_167 e_σ167 ?_
    refine V.aload_n d_Ma_want_168 rfl 1 rfl ?_
    refine V.getR (r := 51) ok_Ma fl_Ma_25 (by decide) (by decide) ly_47 rfl d_Ma_want_169 ?_
    refine V.iload_n d_Ma_want_172 rfl 2 rfl ?_
    refine V.dup2 d_Ma_want_173 rfl rfl ?_
    obtain ⟨gq, h⟩ := grd_e h
    refine V.ra (by decide) ly_51 (inb_e gq) rfl d_Ma_want_174 ?_
    refine V.iconst (v := 1) d_Ma_want_175 (by decide) ?_
    refine V.iadd d_Ma_want_176 ?_
    obtain ⟨gq, h⟩ := grd_e h
    obtain ⟨σ177, e_σ177, h⟩ := letv_e h
    refine V.wa (by decide) ly_51 (inb_e gq) rfl d_Ma_want_177 e_σ177 ?_
    cases h
    exact V.vret rfl d_Ma_want_178 ⟨rfl, rfl⟩
  · replace h := ite_t hc14 h
    refine V.iload d_Ma_want_17 0 rfl ?_
    refine V.istore (lv' := [(5, .int v4), (4, .int v4), (0, rf Z 47), (1, .int a1), (2, .int a2), (3, .int a3)]) d_Ma_want_19 (by decide) rfl ?_
    refine V.iload d_Ma_want_21 1 rfl ?_
    refine V.iconst (v := 1) d_Ma_want_23 (by decide) ?_
    refine V.iadd d_Ma_want_24 ?_
    obtain ⟨v25, e_v25, h⟩ := letv_e h
    refine V.topI e_v25 ?_
    refine V.istore (lv' := [(6, .int v25), (5, .int v4), (4, .int v4), (0, rf Z 47), (1, .int a1), (2, .int a2), (3, .int a3)]) d_Ma_want_25 (by decide) rfl ?_
    obtain ⟨x27_, h1, h⟩ := bnd1_e h
    refine V.pick [3, 4, 5, 6, 2, 1, 0] rfl (cL_Ma_want_l27 Z (Good := fun z => x27_ = z) (fun z27_5 he => ?_) N _ _ _ h1 rfl)
    · rw [he] at h
      refine V.iload_n d_Ma_want_64 rfl 3 rfl ?_
      refine V.aload_n d_Ma_want_65 rfl 0 rfl ?_
      refine V.getR (r := 50) ok_Ma fl_Ma_22 (by decide) (by decide) ly_47 rfl d_Ma_want_66 ?_
      refine V.iload d_Ma_want_69 5 rfl ?_
      obtain ⟨gq, h⟩ := grd_e h
      refine V.ra (by decide) ly_50 (inb_e gq) rfl d_Ma_want_71 ?_
      refine V.icmp_gt (tgt := 76) d_Ma_want_72 (by decide) (fun hc72 => ?_) (fun hc72 => ?_)
      · replace h := ite_t hc72 h
        refine V.iload d_Ma_want_76 5 rfl ?_
        refine V.istore (lv' := [(6, .int z27_5), (0, rf Z 47), (1, .int a1), (2, .int a2), (3, .int a3), (4, .int v4), (5, .int z27_5)]) d_Ma_want_78 (by decide) rfl ?_
        obtain ⟨x80_, h1, h⟩ := bnd1_e h
        refine V.pick [1, 2, 3, 4, 5, 0] rfl (cL_Ma_want_l80 Z (Good := fun z => x80_ = z) (fun σ80_ he => ?_) N _ _ _ h1 rfl)
        · rw [he] at h
          refine V.aload_n d_Ma_want_128 rfl 0 rfl ?_
          refine V.getR (r := 51) ok_Ma fl_Ma_25 (by decide) (by decide) ly_47 rfl d_Ma_want_129 ?_
          refine V.iload_n d_Ma_want_132 rfl 1 rfl ?_
          refine V.dup2 d_Ma_want_133 rfl rfl ?_
          obtain ⟨gq, h⟩ := grd_e h
          refine V.ra (by decide) ly_51 (inb_e gq) rfl d_Ma_want_134 ?_
          refine V.iconst (v := 1) d_Ma_want_135 (by decide) ?_
          refine V.isub d_Ma_want_136 ?_
          obtain ⟨gq, h⟩ := grd_e h
          obtain ⟨σ137, e_σ137, h⟩ := letv_e h
          refine V.wa (by decide) ly_51 (inb_e gq) rfl d_Ma_want_137 e_σ137 ?_
          refine V.aload_n d_Ma_want_138 rfl 0 rfl ?_
          refine V.getR (r := 49) ok_Ma fl_Ma_19 (by decide) (by decide) ly_47 rfl d_Ma_want_139 ?_
          refine V.iload d_Ma_want_142 4 rfl ?_
          refine V.aload_n d_Ma_want_144 rfl 0 rfl ?_
          refine V.getR (r := 51) ok_Ma fl_Ma_25 (by decide) (by decide) ly_47 rfl d_Ma_want_145 ?_
          refine V.iload_n d_Ma_want_148 rfl 1 rfl ?_
          obtain ⟨gq, h⟩ := grd_e h
          refine V.ra (by decide) ly_51 (inb_e gq) rfl d_Ma_want_149 ?_
          refine V.iadd d_Ma_want_150 ?_
          refine V.iload_n d_Ma_want_151 rfl 2 rfl ?_
          obtain ⟨gq, h⟩ := grd_e h
          obtain ⟨σ152, e_σ152, h⟩ := letv_e h
          refine V.wa (by decide) ly_49 (inb_e gq) rfl d_Ma_want_152 e_σ152 ?_
          refine V.aload_n d_Ma_want_153 rfl 0 rfl ?_
          refine V.getR (r := 50) ok_Ma fl_Ma_22 (by decide) (by decide) ly_47 rfl d_Ma_want_154 ?_
          refine V.iload d_Ma_want_157 4 rfl ?_
          refine V.aload_n d_Ma_want_159 rfl 0 rfl ?_
          refine V.getR (r := 51) ok_Ma fl_Ma_25 (by decide) (by decide) ly_47 rfl d_Ma_want_160 ?_
          refine V.iload_n d_Ma_want_163 rfl 1 rfl ?_
          obtain ⟨gq, h⟩ := grd_e h
          refine V.ra (by decide) ly_51 (inb_e gq) rfl d_Ma_want_164 ?_
          refine V.iadd d_Ma_want_165 ?_
          refine V.iload_n d_Ma_want_166 rfl 3 rfl ?_
          obtain ⟨gq, h⟩ := grd_e h
          obtain ⟨σ167, e_σ167, h⟩ := letv_e h
          refine V.wa (by decide) ly_50 (inb_e gq) rfl d_Ma_want_167 e_σ167 ?_
          refine V.aload_n d_Ma_want_168 rfl 0 rfl ?_
          refine V.getR (r := 51) ok_Ma fl_Ma_25 (by decide) (by decide) ly_47 rfl d_Ma_want_169 ?_
          refine V.iload_n d_Ma_want_172 rfl 1 rfl ?_
          refine V.dup2 d_Ma_want_173 rfl rfl ?_
          obtain ⟨gq, h⟩ := grd_e h
          refine V.ra (by decide) ly_51 (inb_e gq) rfl d_Ma_want_174 ?_
          refine V.iconst (v := 1) d_Ma_want_175 (by decide) ?_
          refine V.iadd d_Ma_want_176 ?_
          obtain ⟨gq, h⟩ := grd_e h
          obtain ⟨σ177, e_σ177, h⟩ := letv_e h
          refine V.wa (by decide) ly_51 (inb_e gq) rfl d_Ma_want_177 e_σ177 ?_
          cases h
          exact V.vret rfl d_Ma_want_178 ⟨rfl, rfl⟩
      · replace h := ite_f hc72 h
        cases h
        exact V.vret rfl d_Ma_want_75 ⟨rfl, rfl⟩
abbrev m_Ma_findWanted : MI := (⟨"ShadeTown$Market", "findWanted", "(LShadeTown$Day;II)V"⟩, prog_6_method_14_code, 5, (Option.none : Option Jvm.ClassFile.FieldType))
theorem d_Ma_findWanted_0 : decode prog_6_method_14_code 0 = .ok (.iconst 0, 1) := by decide +kernel
theorem d_Ma_findWanted_1 : decode prog_6_method_14_code 1 = .ok (.istore 4, 2) := by decide +kernel
theorem d_Ma_findWanted_3 : decode prog_6_method_14_code 3 = .ok (.iload 4, 2) := by decide +kernel
theorem d_Ma_findWanted_5 : decode prog_6_method_14_code 5 = .ok (.sipush 144, 3) := by decide +kernel
theorem d_Ma_findWanted_43 : decode prog_6_method_14_code 43 = .ok (.return_, 1) := by decide +kernel
theorem d_Ma_findWanted_11 : decode prog_6_method_14_code 11 = .ok (.aload_n 1, 1) := by decide +kernel
theorem d_Ma_findWanted_12 : decode prog_6_method_14_code 12 = .ok (.iload_n 3, 1) := by decide +kernel
theorem d_Ma_findWanted_13 : decode prog_6_method_14_code 13 = .ok (.iload 4, 2) := by decide +kernel
theorem d_Ma_findWanted_15 : decode prog_6_method_14_code 15 = .ok (.invokevirtual 111, 3) := by decide +kernel
theorem lk_Ma_111 : Cond.methodLink "ShadeTown$Market" 111 ⟨"ShadeTown$Day", "whoCasts", "(II)I"⟩ ∈ tblG := atG 1054 (by decide +kernel) rfl
theorem d_Ma_findWanted_21 : decode prog_6_method_14_code 21 = .ok (.aload_n 0, 1) := by decide +kernel
theorem d_Ma_findWanted_22 : decode prog_6_method_14_code 22 = .ok (.iload_n 2, 1) := by decide +kernel
theorem d_Ma_findWanted_23 : decode prog_6_method_14_code 23 = .ok (.iload 4, 2) := by decide +kernel
theorem d_Ma_findWanted_25 : decode prog_6_method_14_code 25 = .ok (.aload_n 0, 1) := by decide +kernel
theorem d_Ma_findWanted_26 : decode prog_6_method_14_code 26 = .ok (.aload_n 1, 1) := by decide +kernel
theorem d_Ma_findWanted_27 : decode prog_6_method_14_code 27 = .ok (.iload_n 2, 1) := by decide +kernel
theorem d_Ma_findWanted_28 : decode prog_6_method_14_code 28 = .ok (.iload 4, 2) := by decide +kernel
theorem d_Ma_findWanted_30 : decode prog_6_method_14_code 30 = .ok (.iload_n 3, 1) := by decide +kernel
theorem d_Ma_findWanted_31 : decode prog_6_method_14_code 31 = .ok (.invokevirtual 114, 3) := by decide +kernel
theorem lk_Ma_114 : Cond.methodLink "ShadeTown$Market" 114 ⟨"ShadeTown$Market", "worthOf", "(LShadeTown$Day;III)I"⟩ ∈ tblG := atG 1055 (by decide +kernel) rfl
theorem d_Ma_findWanted_34 : decode prog_6_method_14_code 34 = .ok (.invokevirtual 117, 3) := by decide +kernel
theorem k_Ma_want : MOk m_Ma_want 3 ∧ IOk m_Ma_want := ⟨⟨atG 1059 (by decide +kernel) rfl, atG 119 (by decide +kernel) rfl, ⟨by decide, by decide⟩, by decide +kernel, by decide⟩, atG 1058 (by decide +kernel) rfl, atG 28 (by decide +kernel) rfl⟩
theorem lk_Ma_117 : Cond.methodLink "ShadeTown$Market" 117 ⟨"ShadeTown$Market", "want", "(III)V"⟩ ∈ tblG := atG 1056 (by decide +kernel) rfl
theorem d_Ma_findWanted_18 : decode prog_6_method_14_code 18 = .ok (.ifCond .eq 19, 3) := by decide +kernel
theorem d_Ma_findWanted_37 : decode prog_6_method_14_code 37 = .ok (.iinc 4 1, 3) := by decide +kernel
theorem d_Ma_findWanted_40 : decode prog_6_method_14_code 40 = .ok (.goto (-37), 3) := by decide +kernel
theorem d_Ma_findWanted_8 : decode prog_6_method_14_code 8 = .ok (.if_icmp .ge 35, 3) := by decide +kernel
def B_Ma_findWanted_l3 (N : Nat) (a2 : Int32) (a3 : Int32) (rec : Int32 → Mem → Option (Mem)) (x4 : Int32) (σ : Mem) : Option (Mem) :=
  if 144 ≤ x4 then
    (some σ)
  else
    (bnd1 (f_Da_whoCasts σ a3 x4) fun r15 =>
    bnd1 ((
      if r15 = 0 then
        (some σ)
      else
        (bnd2 (f_Ma_worthOf N σ a2 x4 a3) fun r31 σ31 =>
        bnd1 (f_Ma_want N σ31 a2 x4 r31) fun σ34 =>
        some σ34)) : Option (Mem)) fun σ18_ =>
    letv (x4 + 1) fun v37 =>
    rec v37 σ18_)
def L_Ma_findWanted_l3 (N : Nat) (a2 : Int32) (a3 : Int32) : Nat → Int32 → Mem → Option (Mem)
  | 0, _, _ => none
  | k + 1, x4, σ => B_Ma_findWanted_l3 N a2 a3 (L_Ma_findWanted_l3 N a2 a3 k) x4 σ
set_option maxHeartbeats 4000000 in
set_option maxRecDepth 20000 in
theorem cL_Ma_findWanted_l3 (Z : ZX) {Y : YX} {post : Option Value → Mem → Prop} {N : Nat} {a2 : Int32} {a3 : Int32} {Good : Mem → Prop} (hR : ∀ (σr : Mem), Good σr → post none σr) : ∀ (k : Nat) (x4 : Int32) (σ : Mem) (res : Mem), L_Ma_findWanted_l3 N a2 a3 k x4 σ = some res → Good res → V (mkB Z) Y m_Ma_findWanted 5 (QP (mkB Z) Y nC 0 0 post) 0 0 nC σ 3 [(0, rf Z 47), (1, rf Z 33), (2, .int a2), (3, .int a3), (4, .int x4)] [] := by
  intro k
  induction k with
  | zero => intro x4 σ res h; cases h
  | succ k ih =>
    intro x4 σ res h hg
    replace h : B_Ma_findWanted_l3 N a2 a3 (L_Ma_findWanted_l3 N a2 a3 k) x4 σ = some res := h
    unfold B_Ma_findWanted_l3 at h
    refine V.iload d_Ma_findWanted_3 4 rfl ?_
    refine V.sipush (v := 144) d_Ma_findWanted_5 (by decide) ?_
    refine V.icmp_ge (tgt := 43) d_Ma_findWanted_8 (by decide) (fun hc8 => ?_) (fun hc8 => ?_)
    · replace h := ite_t hc8 h
      cases h
      exact V.vret rfl d_Ma_findWanted_43 (hR _ hg)
    · replace h := ite_f hc8 h
      refine V.aload_n d_Ma_findWanted_11 rfl 1 rfl ?_
      refine V.iload_n d_Ma_findWanted_12 rfl 3 rfl ?_
      refine V.iload d_Ma_findWanted_13 4 rfl ?_
      obtain ⟨r15, h1, h⟩ := bnd1_e h
      refine V.vI (as := [.int a3, .int x4]) (st := []) (c_Da_whoCasts Z h1) k_Da_whoCasts lk_Ma_111 (by decide) rfl (by decide) ly_33 ok_Da.1 rfl (Nat.le_of_ble_eq_true rfl) d_Ma_findWanted_15 ?_
      obtain ⟨s18, h1, h⟩ := bnd1_e h
      have J18_37 : ∀ (σ18_ : Mem), s18 = σ18_ → V (mkB Z) Y m_Ma_findWanted 5 (QP (mkB Z) Y nC 0 0 post) 0 0 nC σ18_ 37 [(0, rf Z 47), (1, rf Z 33), (2, .int a2), (3, .int a3), (4, .int x4)] [] := by
        intro σ18_ he
        rw [he] at h
        obtain ⟨v37, e_v37, h⟩ := letv_e h
        refine V.iinc (v := v37) (lv' := [(4, .int v37), (0, rf Z 47), (1, rf Z 33), (2, .int a2), (3, .int a3)]) d_Ma_findWanted_37 4 rfl (by rw [e_v37]; rfl) (by decide) rfl ?_
        refine V.goto (tgt := 3) d_Ma_findWanted_40 (by decide) ?_
        exact V.pick [1, 2, 3, 4, 0] rfl (ih _ _ _ h hg)
      replace h := h1
      refine V.if_eq (tgt := 37) d_Ma_findWanted_18 (by decide) (fun hc18 => ?_) (fun hc18 => ?_)
      · replace h := ite_t hc18 h
        exact V.pick [0, 1, 2, 3, 4] rfl (J18_37 _ (Option.some.inj h).symm)
      · replace h := ite_f hc18 h
        refine V.aload_n d_Ma_findWanted_21 rfl 0 rfl ?_
        refine V.iload_n d_Ma_findWanted_22 rfl 2 rfl ?_
        refine V.iload d_Ma_findWanted_23 4 rfl ?_
        refine V.aload_n d_Ma_findWanted_25 rfl 0 rfl ?_
        refine V.aload_n d_Ma_findWanted_26 rfl 1 rfl ?_
        refine V.iload_n d_Ma_findWanted_27 rfl 2 rfl ?_
        refine V.iload d_Ma_findWanted_28 4 rfl ?_
        refine V.iload_n d_Ma_findWanted_30 rfl 3 rfl ?_
        obtain ⟨r31, σ31, h1, h⟩ := bnd2_e h
        refine V.vI (as := [rf Z 33, .int a2, .int x4, .int a3]) (st := [.int x4, .int a2, rf Z 47]) (c_Ma_worthOf Z h1) k_Ma_worthOf lk_Ma_114 (by decide) rfl (by decide) ly_47 ok_Ma.1 rfl (Nat.le_of_ble_eq_true rfl) d_Ma_findWanted_31 ?_
        obtain ⟨σ34, h1, h⟩ := bnd1_e h
        refine V.vN (as := [.int a2, .int x4, .int r31]) (st := []) (c_Ma_want Z h1) k_Ma_want lk_Ma_117 (by decide) rfl (by decide) ly_47 ok_Ma.1 rfl (Nat.le_of_ble_eq_true rfl) d_Ma_findWanted_34 ?_
        exact V.pick [0, 1, 2, 3, 4] rfl (J18_37 _ (Option.some.inj h).symm)
def f_Ma_findWanted (N : Nat) (σ : Mem) (a2 : Int32) (a3 : Int32) : Option (Mem) :=
  L_Ma_findWanted_l3 N a2 a3 N 0 σ
set_option maxHeartbeats 4000000 in
set_option maxRecDepth 20000 in
theorem c_Ma_findWanted (Z : ZX) {N : Nat} {σ : Mem} {a2 : Int32} {a3 : Int32} {σ' : Mem} (h : f_Ma_findWanted N σ a2 a3 = some σ') : CN Z 5 m_Ma_findWanted [rf Z 47, rf Z 33, .int a2, .int a3] σ σ' := by
  refine Ct.of (by decide +kernel) (Nat.le_of_ble_eq_true rfl) (fun Y => ?_)
  show V (mkB Z) Y m_Ma_findWanted 5 (QP (mkB Z) Y nC 0 0 (fun v t => v = none ∧ t = σ')) 0 0 nC σ 0 [(0, rf Z 47), (1, rf Z 33), (2, .int a2), (3, .int a3)] []
  unfold f_Ma_findWanted at h
  refine V.iconst (v := 0) d_Ma_findWanted_0 (by decide) ?_
  refine V.istore (lv' := [(4, .int 0), (0, rf Z 47), (1, rf Z 33), (2, .int a2), (3, .int a3)]) d_Ma_findWanted_1 (by decide) rfl ?_
  refine V.pick [1, 2, 3, 4, 0] rfl (cL_Ma_findWanted_l3 Z (Good := fun z => z = _) (fun r3m he => ?_) N _ _ _ h rfl)
  · cases he
    exact ⟨rfl, rfl⟩
abbrev m_JA_fill_d0a16 : MI := (⟨"java/util/Arrays", "fill", "([JJ)V"⟩, prog_21_method_101_code, 5, (Option.none : Option Jvm.ClassFile.FieldType))
theorem d_JA_fill_d0a16_0 : decode prog_21_method_101_code 0 = .ok (.iconst 0, 1) := by decide +kernel
theorem d_JA_fill_d0a16_1 : decode prog_21_method_101_code 1 = .ok (.istore_n 3, 1) := by decide +kernel
theorem d_JA_fill_d0a16_2 : decode prog_21_method_101_code 2 = .ok (.aload_n 0, 1) := by decide +kernel
theorem d_JA_fill_d0a16_3 : decode prog_21_method_101_code 3 = .ok (.arraylength, 1) := by decide +kernel
theorem d_JA_fill_d0a16_4 : decode prog_21_method_101_code 4 = .ok (.istore 4, 2) := by decide +kernel
theorem d_JA_fill_d0a16_6 : decode prog_21_method_101_code 6 = .ok (.iload_n 3, 1) := by decide +kernel
theorem d_JA_fill_d0a16_7 : decode prog_21_method_101_code 7 = .ok (.iload 4, 2) := by decide +kernel
theorem d_JA_fill_d0a16_22 : decode prog_21_method_101_code 22 = .ok (.return_, 1) := by decide +kernel
theorem d_JA_fill_d0a16_12 : decode prog_21_method_101_code 12 = .ok (.aload_n 0, 1) := by decide +kernel
theorem d_JA_fill_d0a16_13 : decode prog_21_method_101_code 13 = .ok (.iload_n 3, 1) := by decide +kernel
theorem d_JA_fill_d0a16_14 : decode prog_21_method_101_code 14 = .ok (.lload_n 1, 1) := by decide +kernel
theorem d_JA_fill_d0a16_15 : decode prog_21_method_101_code 15 = .ok (.lastore, 1) := by decide +kernel
theorem d_JA_fill_d0a16_16 : decode prog_21_method_101_code 16 = .ok (.iinc 3 1, 3) := by decide +kernel
theorem d_JA_fill_d0a16_19 : decode prog_21_method_101_code 19 = .ok (.goto (-13), 3) := by decide +kernel
theorem d_JA_fill_d0a16_9 : decode prog_21_method_101_code 9 = .ok (.if_icmp .ge 13, 3) := by decide +kernel
def B_JA_fill_d0a16_l6 (N : Nat) (g0 n0 : Nat) (a1 : Int64) (a4 : Int32) (rec : Int32 → Mem → Option (Mem)) (x3 : Int32) (σ : Mem) : Option (Mem) :=
  if a4 ≤ x3 then
    (some σ)
  else
    (grd (inb x3 n0) <|
    letv (sL σ g0 (x3.toNatClampNeg) a1) fun σ15 =>
    letv (x3 + 1) fun v16 =>
    rec v16 σ15)
def L_JA_fill_d0a16_l6 (N : Nat) (g0 n0 : Nat) (a1 : Int64) (a4 : Int32) : Nat → Int32 → Mem → Option (Mem)
  | 0, _, _ => none
  | k + 1, x3, σ => B_JA_fill_d0a16_l6 N g0 n0 a1 a4 (L_JA_fill_d0a16_l6 N g0 n0 a1 a4 k) x3 σ
set_option maxHeartbeats 4000000 in
set_option maxRecDepth 20000 in
theorem cL_JA_fill_d0a16_l6 (Z : ZX) {Y : YX} {post : Option Value → Mem → Prop} {N : Nat} {g0 n0 : Nat} {a1 : Int64} {a4 : Int32} (hk0 : g0 < nC) (hy0 : lay1 g0 = .inl (.long, n0)) {Good : Mem → Prop} (hR : ∀ (σr : Mem), Good σr → post none σr) : ∀ (k : Nat) (x3 : Int32) (σ : Mem) (res : Mem), L_JA_fill_d0a16_l6 N g0 n0 a1 a4 k x3 σ = some res → Good res → V (mkB Z) Y m_JA_fill_d0a16 0 (QP (mkB Z) Y nC 0 0 post) 0 0 nC σ 6 [(0, rf Z g0), (1, .long a1), (3, .int x3), (4, .int a4)] [] := by
  intro k
  induction k with
  | zero => intro x3 σ res h; cases h
  | succ k ih =>
    intro x3 σ res h hg
    replace h : B_JA_fill_d0a16_l6 N g0 n0 a1 a4 (L_JA_fill_d0a16_l6 N g0 n0 a1 a4 k) x3 σ = some res := h
    unfold B_JA_fill_d0a16_l6 at h
    refine V.iload_n d_JA_fill_d0a16_6 rfl 2 rfl ?_
    refine V.iload d_JA_fill_d0a16_7 3 rfl ?_
    refine V.icmp_ge (tgt := 22) d_JA_fill_d0a16_9 (by decide) (fun hc9 => ?_) (fun hc9 => ?_)
    · replace h := ite_t hc9 h
      cases h
      exact V.vret rfl d_JA_fill_d0a16_22 (hR _ hg)
    · replace h := ite_f hc9 h
      refine V.aload_n d_JA_fill_d0a16_12 rfl 0 rfl ?_
      refine V.iload_n d_JA_fill_d0a16_13 rfl 2 rfl ?_
      refine V.lload_n d_JA_fill_d0a16_14 rfl 1 rfl ?_
      obtain ⟨gq, h⟩ := grd_e h
      obtain ⟨σ15, e_σ15, h⟩ := letv_e h
      refine V.wl hk0 hy0 (inb_e gq) rfl d_JA_fill_d0a16_15 e_σ15 ?_
      obtain ⟨v16, e_v16, h⟩ := letv_e h
      refine V.iinc (v := v16) (lv' := [(3, .int v16), (0, rf Z g0), (1, .long a1), (4, .int a4)]) d_JA_fill_d0a16_16 2 rfl (by rw [e_v16]; rfl) (by decide) rfl ?_
      refine V.goto (tgt := 6) d_JA_fill_d0a16_19 (by decide) ?_
      exact V.pick [1, 2, 0, 3] rfl (ih _ _ _ h hg)
def f_JA_fill_d0a16 (N : Nat) (σ : Mem) (g0 : Nat) (n0 : Nat) (a1 : Int64) : Option (Mem) :=
  letv (Int32.ofNat n0) fun v4 =>
  L_JA_fill_d0a16_l6 N g0 n0 a1 v4 N 0 σ
set_option maxHeartbeats 4000000 in
set_option maxRecDepth 20000 in
theorem c_JA_fill_d0a16 (Z : ZX) {N : Nat} {σ : Mem} {g0 : Nat} {n0 : Nat} {a1 : Int64} {σ' : Mem} (hk0 : g0 < nC) (hy0 : lay1 g0 = .inl (.long, n0)) (h : f_JA_fill_d0a16 N σ g0 n0 a1 = some σ') : CN Z 0 m_JA_fill_d0a16 [rf Z g0, .long a1] σ σ' := by
  refine Ct.of (by decide +kernel) (Nat.le_of_ble_eq_true rfl) (fun Y => ?_)
  show V (mkB Z) Y m_JA_fill_d0a16 0 (QP (mkB Z) Y nC 0 0 (fun v t => v = none ∧ t = σ')) 0 0 nC σ 0 [(0, rf Z g0), (1, .long a1)] []
  unfold f_JA_fill_d0a16 at h
  refine V.iconst (v := 0) d_JA_fill_d0a16_0 (by decide) ?_
  refine V.istore_n (lv' := [(3, .int 0), (0, rf Z g0), (1, .long a1)]) d_JA_fill_d0a16_1 rfl (by decide) rfl ?_
  refine V.aload_n d_JA_fill_d0a16_2 rfl 1 rfl ?_
  refine V.al (t := 2) (x := Int32.ofNat n0) hk0 hy0 rfl rfl d_JA_fill_d0a16_3 ?_
  obtain ⟨v4, e_v4, h⟩ := letv_e h
  refine V.topI e_v4 ?_
  refine V.istore (lv' := [(4, .int v4), (3, .int 0), (0, rf Z g0), (1, .long a1)]) d_JA_fill_d0a16_4 (by decide) rfl ?_
  refine V.pick [2, 3, 1, 0] rfl (cL_JA_fill_d0a16_l6 Z hk0 hy0 (Good := fun z => z = _) (fun r6m he => ?_) N _ _ _ h rfl)
  · cases he
    exact ⟨rfl, rfl⟩
abbrev m_JM_max_f86c9 : MI := (⟨"java/lang/Math", "max", "(JJ)J"⟩, prog_16_method_66_code, 4, (Option.some Jvm.ClassFile.FieldType.long))
theorem d_JM_max_f86c9_0 : decode prog_16_method_66_code 0 = .ok (.lload_n 0, 1) := by decide +kernel
theorem d_JM_max_f86c9_1 : decode prog_16_method_66_code 1 = .ok (.lload_n 2, 1) := by decide +kernel
theorem d_JM_max_f86c9_2 : decode prog_16_method_66_code 2 = .ok (.lcmp, 1) := by decide +kernel
theorem d_JM_max_f86c9_10 : decode prog_16_method_66_code 10 = .ok (.lload_n 2, 1) := by decide +kernel
theorem d_JM_max_f86c9_11 : decode prog_16_method_66_code 11 = .ok (.lreturn, 1) := by decide +kernel
theorem d_JM_max_f86c9_6 : decode prog_16_method_66_code 6 = .ok (.lload_n 0, 1) := by decide +kernel
theorem d_JM_max_f86c9_7 : decode prog_16_method_66_code 7 = .ok (.goto 4, 3) := by decide +kernel
theorem d_JM_max_f86c9_3 : decode prog_16_method_66_code 3 = .ok (.ifCond .lt 7, 3) := by decide +kernel
def f_JM_max_f86c9 (a0 : Int64) (a2 : Int64) : Option (Int64) :=
  if (lg_cmp a0 a2) < 0 then
    (some a2)
  else
    (some a0)
set_option maxHeartbeats 4000000 in
set_option maxRecDepth 20000 in
theorem c_JM_max_f86c9 (Z : ZX) {σ : Mem} {a0 : Int64} {a2 : Int64} {r : Int64} (h : f_JM_max_f86c9 a0 a2 = some r) : CJ Z 0 m_JM_max_f86c9 [.long a0, .long a2] σ r σ := by
  refine Ct.of (by decide +kernel) (Nat.le_of_ble_eq_true rfl) (fun Y => ?_)
  show V (mkB Z) Y m_JM_max_f86c9 0 (QP (mkB Z) Y nC 0 0 (fun v t => v = some (.long r) ∧ t = σ)) 0 0 nC σ 0 [(0, .long a0), (2, .long a2)] []
  unfold f_JM_max_f86c9 at h
  refine V.lload_n d_JM_max_f86c9_0 rfl 0 rfl ?_
  refine V.lload_n d_JM_max_f86c9_1 rfl 1 rfl ?_
  refine V.lcmp d_JM_max_f86c9_2 ?_
  refine V.if_lt (tgt := 10) d_JM_max_f86c9_3 (by decide) (fun hc3 => ?_) (fun hc3 => ?_)
  · replace h := ite_t hc3 h
    refine V.lload_n d_JM_max_f86c9_10 rfl 1 rfl ?_
    cases h
    exact V.lret rfl d_JM_max_f86c9_11 ⟨rfl, rfl⟩
  · replace h := ite_f hc3 h
    refine V.lload_n d_JM_max_f86c9_6 rfl 0 rfl ?_
    refine V.goto (tgt := 11) d_JM_max_f86c9_7 (by decide) ?_
    cases h
    exact V.lret rfl d_JM_max_f86c9_11 ⟨rfl, rfl⟩
abbrev m_Ma_bestOf : MI := (⟨"ShadeTown$Market", "bestOf", "(I)J"⟩, prog_6_method_19_code, 5, (Option.some Jvm.ClassFile.FieldType.long))
theorem d_Ma_bestOf_0 : decode prog_6_method_19_code 0 = .ok (.lconst 0, 1) := by decide +kernel
theorem d_Ma_bestOf_1 : decode prog_6_method_19_code 1 = .ok (.lstore_n 2, 1) := by decide +kernel
theorem d_Ma_bestOf_2 : decode prog_6_method_19_code 2 = .ok (.iconst 0, 1) := by decide +kernel
theorem d_Ma_bestOf_3 : decode prog_6_method_19_code 3 = .ok (.istore 4, 2) := by decide +kernel
theorem d_Ma_bestOf_5 : decode prog_6_method_19_code 5 = .ok (.iload 4, 2) := by decide +kernel
theorem d_Ma_bestOf_7 : decode prog_6_method_19_code 7 = .ok (.sipush 255, 3) := by decide +kernel
theorem d_Ma_bestOf_40 : decode prog_6_method_19_code 40 = .ok (.lload_n 2, 1) := by decide +kernel
theorem d_Ma_bestOf_41 : decode prog_6_method_19_code 41 = .ok (.lreturn, 1) := by decide +kernel
theorem d_Ma_bestOf_13 : decode prog_6_method_19_code 13 = .ok (.iload 4, 2) := by decide +kernel
theorem d_Ma_bestOf_15 : decode prog_6_method_19_code 15 = .ok (.iload_n 1, 1) := by decide +kernel
theorem d_Ma_bestOf_16 : decode prog_6_method_19_code 16 = .ok (.iconst (-1), 1) := by decide +kernel
theorem d_Ma_bestOf_17 : decode prog_6_method_19_code 17 = .ok (.ixor, 1) := by decide +kernel
theorem d_Ma_bestOf_18 : decode prog_6_method_19_code 18 = .ok (.iand, 1) := by decide +kernel
theorem d_Ma_bestOf_22 : decode prog_6_method_19_code 22 = .ok (.lload_n 2, 1) := by decide +kernel
theorem d_Ma_bestOf_23 : decode prog_6_method_19_code 23 = .ok (.aload_n 0, 1) := by decide +kernel
theorem fl_Ma_35 : FL "ShadeTown$Market" 35 T_Ma 7 := atG 353 (by decide +kernel) rfl
theorem d_Ma_bestOf_24 : decode prog_6_method_19_code 24 = .ok (.getfield 35, 3) := by decide +kernel
theorem d_Ma_bestOf_27 : decode prog_6_method_19_code 27 = .ok (.iload 4, 2) := by decide +kernel
theorem d_Ma_bestOf_29 : decode prog_6_method_19_code 29 = .ok (.laload, 1) := by decide +kernel
theorem d_Ma_bestOf_30 : decode prog_6_method_19_code 30 = .ok (.invokestatic 125, 3) := by decide +kernel
theorem k_JM_max_f86c9 : MOk m_JM_max_f86c9 2 ∧ Cond.static m_JM_max_f86c9.1 ∈ tblG := ⟨⟨atG 1078 (by decide +kernel) rfl, atG 123 (by decide +kernel) rfl, ⟨by decide, by decide⟩, by decide +kernel, by decide⟩, atG 1077 (by decide +kernel) rfl⟩
theorem lk_Ma_125 : Cond.methodLink "ShadeTown$Market" 125 ⟨"java/lang/Math", "max", "(JJ)J"⟩ ∈ tblG := atG 1076 (by decide +kernel) rfl
theorem d_Ma_bestOf_33 : decode prog_6_method_19_code 33 = .ok (.lstore_n 2, 1) := by decide +kernel
theorem d_Ma_bestOf_19 : decode prog_6_method_19_code 19 = .ok (.ifCond .ne 15, 3) := by decide +kernel
theorem d_Ma_bestOf_34 : decode prog_6_method_19_code 34 = .ok (.iinc 4 1, 3) := by decide +kernel
theorem d_Ma_bestOf_37 : decode prog_6_method_19_code 37 = .ok (.goto (-32), 3) := by decide +kernel
theorem d_Ma_bestOf_10 : decode prog_6_method_19_code 10 = .ok (.if_icmp .gt 30, 3) := by decide +kernel
def B_Ma_bestOf_l5 (N : Nat) (a1 : Int32) (σ : Mem) (rec : Int64 → Int32 → Option (Int64)) (x2 : Int64) (x4 : Int32) : Option (Int64) :=
  if 255 < x4 then
    (some x2)
  else
    (bnd1 ((
      if (x4 &&& (a1 ^^^ (-1))) = 0 then
        (grd (inb x4 256) <|
        bnd1 (f_JM_max_f86c9 x2 (mL σ 54 (x4.toNatClampNeg))) fun r30 =>
        some r30)
      else
        (some x2)) : Option (Int64)) fun y19_2 =>
    letv (x4 + 1) fun v34 =>
    rec y19_2 v34)
def L_Ma_bestOf_l5 (N : Nat) (a1 : Int32) (σ : Mem) : Nat → Int64 → Int32 → Option (Int64)
  | 0, _, _ => none
  | k + 1, x2, x4 => B_Ma_bestOf_l5 N a1 σ (L_Ma_bestOf_l5 N a1 σ k) x2 x4
set_option maxHeartbeats 4000000 in
set_option maxRecDepth 20000 in
theorem cL_Ma_bestOf_l5 (Z : ZX) {Y : YX} {post : Option Value → Mem → Prop} {N : Nat} {a1 : Int32} {σ : Mem} {Good : Int64 → Prop} (hR : ∀ (v : Int64), Good v → post (some (.long v)) σ) : ∀ (k : Nat) (x2 : Int64) (x4 : Int32) (res : Int64), L_Ma_bestOf_l5 N a1 σ k x2 x4 = some res → Good res → V (mkB Z) Y m_Ma_bestOf 1 (QP (mkB Z) Y nC 0 0 post) 0 0 nC σ 5 [(0, rf Z 47), (1, .int a1), (2, .long x2), (4, .int x4)] [] := by
  intro k
  induction k with
  | zero => intro x2 x4 res h; cases h
  | succ k ih =>
    intro x2 x4 res h hg
    replace h : B_Ma_bestOf_l5 N a1 σ (L_Ma_bestOf_l5 N a1 σ k) x2 x4 = some res := h
    unfold B_Ma_bestOf_l5 at h
    refine V.iload d_Ma_bestOf_5 3 rfl ?_
    refine V.sipush (v := 255) d_Ma_bestOf_7 (by decide) ?_
    refine V.icmp_gt (tgt := 40) d_Ma_bestOf_10 (by decide) (fun hc10 => ?_) (fun hc10 => ?_)
    · replace h := ite_t hc10 h
      refine V.lload_n d_Ma_bestOf_40 rfl 2 rfl ?_
      cases h
      exact V.lret rfl d_Ma_bestOf_41 (hR _ hg)
    · replace h := ite_f hc10 h
      refine V.iload d_Ma_bestOf_13 3 rfl ?_
      refine V.iload_n d_Ma_bestOf_15 rfl 1 rfl ?_
      refine V.iconst (v := (-1)) d_Ma_bestOf_16 (by decide) ?_
      refine V.ixor d_Ma_bestOf_17 ?_
      refine V.iand d_Ma_bestOf_18 ?_
      obtain ⟨s19, h1, h⟩ := bnd1_e h
      have J19_34 : ∀ (y19_2 : Int64), s19 = y19_2 → V (mkB Z) Y m_Ma_bestOf 1 (QP (mkB Z) Y nC 0 0 post) 0 0 nC σ 34 [(0, rf Z 47), (1, .int a1), (2, .long y19_2), (4, .int x4)] [] := by
        intro y19_2 he
        rw [he] at h
        obtain ⟨v34, e_v34, h⟩ := letv_e h
        refine V.iinc (v := v34) (lv' := [(4, .int v34), (0, rf Z 47), (1, .int a1), (2, .long y19_2)]) d_Ma_bestOf_34 3 rfl (by rw [e_v34]; rfl) (by decide) rfl ?_
        refine V.goto (tgt := 5) d_Ma_bestOf_37 (by decide) ?_
        exact V.pick [1, 2, 3, 0] rfl (ih _ _ _ h hg)
      replace h := h1
      refine V.if_ne (tgt := 34) d_Ma_bestOf_19 (by decide) (fun hc19 => ?_) (fun hc19 => ?_)
      · replace h := ite_f hc19 h
        exact V.pick [0, 1, 2, 3] rfl (J19_34 _ (Option.some.inj h).symm)
      · replace h := ite_t hc19 h
        refine V.lload_n d_Ma_bestOf_22 rfl 2 rfl ?_
        refine V.aload_n d_Ma_bestOf_23 rfl 0 rfl ?_
        refine V.getR (r := 54) ok_Ma fl_Ma_35 (by decide) (by decide) ly_47 rfl d_Ma_bestOf_24 ?_
        refine V.iload d_Ma_bestOf_27 3 rfl ?_
        obtain ⟨gq, h⟩ := grd_e h
        refine V.rl (by decide) ly_54 (inb_e gq) rfl d_Ma_bestOf_29 ?_
        obtain ⟨r30, h1, h⟩ := bnd1_e h
        refine V.sJ (as := [.long x2, .long (mL σ 54 (x4.toNatClampNeg))]) (st := []) (c_JM_max_f86c9 Z h1) k_JM_max_f86c9 lk_Ma_125 (by decide) rfl rfl (Nat.le_of_ble_eq_true rfl) d_Ma_bestOf_30 ?_
        refine V.lstore_n (lv' := [(2, .long r30), (0, rf Z 47), (1, .int a1), (4, .int x4)]) d_Ma_bestOf_33 rfl (by decide) rfl ?_
        exact V.pick [1, 2, 0, 3] rfl (J19_34 _ (Option.some.inj h).symm)
def f_Ma_bestOf (N : Nat) (σ : Mem) (a1 : Int32) : Option (Int64) :=
  L_Ma_bestOf_l5 N a1 σ N 0 0
set_option maxHeartbeats 4000000 in
set_option maxRecDepth 20000 in
theorem c_Ma_bestOf (Z : ZX) {N : Nat} {σ : Mem} {a1 : Int32} {r : Int64} (h : f_Ma_bestOf N σ a1 = some r) : CJ Z 1 m_Ma_bestOf [rf Z 47, .int a1] σ r σ := by
  refine Ct.of (by decide +kernel) (Nat.le_of_ble_eq_true rfl) (fun Y => ?_)
  show V (mkB Z) Y m_Ma_bestOf 1 (QP (mkB Z) Y nC 0 0 (fun v t => v = some (.long r) ∧ t = σ)) 0 0 nC σ 0 [(0, rf Z 47), (1, .int a1)] []
  unfold f_Ma_bestOf at h
  refine V.lconst (v := 0) d_Ma_bestOf_0 (by decide) ?_
  refine V.lstore_n (lv' := [(2, .long 0), (0, rf Z 47), (1, .int a1)]) d_Ma_bestOf_1 rfl (by decide) rfl ?_
  refine V.iconst (v := 0) d_Ma_bestOf_2 (by decide) ?_
  refine V.istore (lv' := [(4, .int 0), (2, .long 0), (0, rf Z 47), (1, .int a1)]) d_Ma_bestOf_3 (by decide) rfl ?_
  refine V.pick [2, 3, 1, 0] rfl (cL_Ma_bestOf_l5 Z (Good := fun z => z = _) (fun r5v he => ?_) N _ _ _ h rfl)
  · cases he
    exact ⟨rfl, rfl⟩
abbrev m_Ma_offersFor : MI := (⟨"ShadeTown$Market", "offersFor", "(I)Z"⟩, prog_6_method_16_code, 5, (Option.some Jvm.ClassFile.FieldType.boolean))
theorem d_Ma_offersFor_0 : decode prog_6_method_16_code 0 = .ok (.iconst 0, 1) := by decide +kernel
theorem d_Ma_offersFor_1 : decode prog_6_method_16_code 1 = .ok (.istore_n 2, 1) := by decide +kernel
theorem d_Ma_offersFor_2 : decode prog_6_method_16_code 2 = .ok (.iconst 0, 1) := by decide +kernel
theorem d_Ma_offersFor_3 : decode prog_6_method_16_code 3 = .ok (.istore_n 3, 1) := by decide +kernel
theorem d_Ma_offersFor_4 : decode prog_6_method_16_code 4 = .ok (.iload_n 3, 1) := by decide +kernel
theorem d_Ma_offersFor_5 : decode prog_6_method_16_code 5 = .ok (.bipush 8, 2) := by decide +kernel
theorem d_Ma_offersFor_108 : decode prog_6_method_16_code 108 = .ok (.iload_n 2, 1) := by decide +kernel
theorem d_Ma_offersFor_109 : decode prog_6_method_16_code 109 = .ok (.ireturn, 1) := by decide +kernel
theorem d_Ma_offersFor_10 : decode prog_6_method_16_code 10 = .ok (.aload_n 0, 1) := by decide +kernel
theorem fl_Ma_28 : FL "ShadeTown$Market" 28 T_Ma 5 := atG 351 (by decide +kernel) rfl
theorem d_Ma_offersFor_11 : decode prog_6_method_16_code 11 = .ok (.getfield 28, 3) := by decide +kernel
theorem d_Ma_offersFor_14 : decode prog_6_method_16_code 14 = .ok (.iload_n 3, 1) := by decide +kernel
theorem d_Ma_offersFor_15 : decode prog_6_method_16_code 15 = .ok (.iaload, 1) := by decide +kernel
theorem d_Ma_offersFor_16 : decode prog_6_method_16_code 16 = .ok (.istore 4, 2) := by decide +kernel
theorem d_Ma_offersFor_18 : decode prog_6_method_16_code 18 = .ok (.aload_n 0, 1) := by decide +kernel
theorem fl_Ma_31 : FL "ShadeTown$Market" 31 T_Ma 6 := atG 352 (by decide +kernel) rfl
theorem d_Ma_offersFor_19 : decode prog_6_method_16_code 19 = .ok (.getfield 31, 3) := by decide +kernel
theorem d_Ma_offersFor_22 : decode prog_6_method_16_code 22 = .ok (.iload_n 3, 1) := by decide +kernel
theorem kl_Ma_73 : Cond.constantLong "ShadeTown$Market" 73 ((-1)) ∈ tblG := atG 1060 (by decide +kernel) rfl
theorem d_Ma_offersFor_23 : decode prog_6_method_16_code 23 = .ok (.ldc2_w 73, 3) := by decide +kernel
theorem d_Ma_offersFor_26 : decode prog_6_method_16_code 26 = .ok (.lastore, 1) := by decide +kernel
theorem d_Ma_offersFor_27 : decode prog_6_method_16_code 27 = .ok (.iload 4, 2) := by decide +kernel
theorem d_Ma_offersFor_29 : decode prog_6_method_16_code 29 = .ok (.aload_n 0, 1) := by decide +kernel
theorem d_Ma_offersFor_30 : decode prog_6_method_16_code 30 = .ok (.getfield 25, 3) := by decide +kernel
theorem d_Ma_offersFor_33 : decode prog_6_method_16_code 33 = .ok (.iload_n 3, 1) := by decide +kernel
theorem d_Ma_offersFor_34 : decode prog_6_method_16_code 34 = .ok (.iaload, 1) := by decide +kernel
theorem d_Ma_offersFor_38 : decode prog_6_method_16_code 38 = .ok (.aload_n 0, 1) := by decide +kernel
theorem d_Ma_offersFor_39 : decode prog_6_method_16_code 39 = .ok (.getfield 19, 3) := by decide +kernel
theorem d_Ma_offersFor_42 : decode prog_6_method_16_code 42 = .ok (.iload_n 3, 1) := by decide +kernel
theorem d_Ma_offersFor_43 : decode prog_6_method_16_code 43 = .ok (.bipush 8, 2) := by decide +kernel
theorem d_Ma_offersFor_45 : decode prog_6_method_16_code 45 = .ok (.imul, 1) := by decide +kernel
theorem d_Ma_offersFor_46 : decode prog_6_method_16_code 46 = .ok (.iload 4, 2) := by decide +kernel
theorem d_Ma_offersFor_48 : decode prog_6_method_16_code 48 = .ok (.iadd, 1) := by decide +kernel
theorem d_Ma_offersFor_49 : decode prog_6_method_16_code 49 = .ok (.iaload, 1) := by decide +kernel
theorem d_Ma_offersFor_50 : decode prog_6_method_16_code 50 = .ok (.iload_n 1, 1) := by decide +kernel
theorem d_Ma_offersFor_54 : decode prog_6_method_16_code 54 = .ok (.aload_n 0, 1) := by decide +kernel
theorem d_Ma_offersFor_55 : decode prog_6_method_16_code 55 = .ok (.getfield 31, 3) := by decide +kernel
theorem d_Ma_offersFor_58 : decode prog_6_method_16_code 58 = .ok (.iload_n 3, 1) := by decide +kernel
theorem d_Ma_offersFor_59 : decode prog_6_method_16_code 59 = .ok (.aload_n 0, 1) := by decide +kernel
theorem d_Ma_offersFor_60 : decode prog_6_method_16_code 60 = .ok (.getfield 22, 3) := by decide +kernel
theorem d_Ma_offersFor_63 : decode prog_6_method_16_code 63 = .ok (.iload_n 3, 1) := by decide +kernel
theorem d_Ma_offersFor_64 : decode prog_6_method_16_code 64 = .ok (.bipush 8, 2) := by decide +kernel
theorem d_Ma_offersFor_66 : decode prog_6_method_16_code 66 = .ok (.imul, 1) := by decide +kernel
theorem d_Ma_offersFor_67 : decode prog_6_method_16_code 67 = .ok (.iload 4, 2) := by decide +kernel
theorem d_Ma_offersFor_69 : decode prog_6_method_16_code 69 = .ok (.iadd, 1) := by decide +kernel
theorem d_Ma_offersFor_70 : decode prog_6_method_16_code 70 = .ok (.iaload, 1) := by decide +kernel
theorem d_Ma_offersFor_71 : decode prog_6_method_16_code 71 = .ok (.i2l, 1) := by decide +kernel
theorem d_Ma_offersFor_72 : decode prog_6_method_16_code 72 = .ok (.bipush 32, 2) := by decide +kernel
theorem d_Ma_offersFor_74 : decode prog_6_method_16_code 74 = .ok (.lshl, 1) := by decide +kernel
theorem d_Ma_offersFor_75 : decode prog_6_method_16_code 75 = .ok (.bipush 8, 2) := by decide +kernel
theorem d_Ma_offersFor_77 : decode prog_6_method_16_code 77 = .ok (.iload 4, 2) := by decide +kernel
theorem d_Ma_offersFor_79 : decode prog_6_method_16_code 79 = .ok (.isub, 1) := by decide +kernel
theorem d_Ma_offersFor_80 : decode prog_6_method_16_code 80 = .ok (.i2l, 1) := by decide +kernel
theorem d_Ma_offersFor_81 : decode prog_6_method_16_code 81 = .ok (.iconst 4, 1) := by decide +kernel
theorem d_Ma_offersFor_82 : decode prog_6_method_16_code 82 = .ok (.bipush 7, 2) := by decide +kernel
theorem d_Ma_offersFor_84 : decode prog_6_method_16_code 84 = .ok (.iload_n 3, 1) := by decide +kernel
theorem d_Ma_offersFor_85 : decode prog_6_method_16_code 85 = .ok (.isub, 1) := by decide +kernel
theorem d_Ma_offersFor_86 : decode prog_6_method_16_code 86 = .ok (.imul, 1) := by decide +kernel
theorem d_Ma_offersFor_87 : decode prog_6_method_16_code 87 = .ok (.lshl, 1) := by decide +kernel
theorem d_Ma_offersFor_88 : decode prog_6_method_16_code 88 = .ok (.ladd, 1) := by decide +kernel
theorem d_Ma_offersFor_89 : decode prog_6_method_16_code 89 = .ok (.lastore, 1) := by decide +kernel
theorem d_Ma_offersFor_90 : decode prog_6_method_16_code 90 = .ok (.aload_n 0, 1) := by decide +kernel
theorem d_Ma_offersFor_91 : decode prog_6_method_16_code 91 = .ok (.getfield 28, 3) := by decide +kernel
theorem d_Ma_offersFor_94 : decode prog_6_method_16_code 94 = .ok (.iload_n 3, 1) := by decide +kernel
theorem d_Ma_offersFor_95 : decode prog_6_method_16_code 95 = .ok (.dup2, 1) := by decide +kernel
theorem d_Ma_offersFor_96 : decode prog_6_method_16_code 96 = .ok (.iaload, 1) := by decide +kernel
theorem d_Ma_offersFor_97 : decode prog_6_method_16_code 97 = .ok (.iconst 1, 1) := by decide +kernel
theorem d_Ma_offersFor_98 : decode prog_6_method_16_code 98 = .ok (.iadd, 1) := by decide +kernel
theorem d_Ma_offersFor_99 : decode prog_6_method_16_code 99 = .ok (.iastore, 1) := by decide +kernel
theorem d_Ma_offersFor_100 : decode prog_6_method_16_code 100 = .ok (.iconst 1, 1) := by decide +kernel
theorem d_Ma_offersFor_101 : decode prog_6_method_16_code 101 = .ok (.istore_n 2, 1) := by decide +kernel
theorem d_Ma_offersFor_51 : decode prog_6_method_16_code 51 = .ok (.if_icmp .ne 51, 3) := by decide +kernel
theorem d_Ma_offersFor_35 : decode prog_6_method_16_code 35 = .ok (.if_icmp .ge 67, 3) := by decide +kernel
theorem d_Ma_offersFor_102 : decode prog_6_method_16_code 102 = .ok (.iinc 3 1, 3) := by decide +kernel
theorem d_Ma_offersFor_105 : decode prog_6_method_16_code 105 = .ok (.goto (-101), 3) := by decide +kernel
theorem d_Ma_offersFor_7 : decode prog_6_method_16_code 7 = .ok (.if_icmp .ge 101, 3) := by decide +kernel
def B_Ma_offersFor_l4 (N : Nat) (a1 : Int32) (rec : Int32 → Int32 → Mem → Option (Int32 × Mem)) (x2 : Int32) (x3 : Int32) (σ : Mem) : Option (Int32 × Mem) :=
  if 8 ≤ x3 then
    (grd (decide (x2 &&& 1 = x2)) (some (x2, σ)))
  else
    (grd (inb x3 8) <|
    letv (mI σ 52 (x3.toNatClampNeg)) fun v16 =>
    grd (inb x3 8) <|
    letv (sL σ 53 (x3.toNatClampNeg) (-1)) fun σ26 =>
    grd (inb x3 8) <|
    bnd1 ((
      if (mI σ26 51 (x3.toNatClampNeg)) ≤ v16 then
        (some (x2, σ26))
      else
        (grd (inb ((x3 * 8) + v16) 64) <|
        if (mI σ26 49 (((x3 * 8) + v16).toNatClampNeg)) = a1 then
          (grd (inb ((x3 * 8) + v16) 64) <|
          grd (inb x3 8) <|
          letv (sL σ26 53 (x3.toNatClampNeg) ((((mI σ26 50 (((x3 * 8) + v16).toNatClampNeg)).toInt64) <<< ((32 : Int32).toInt64 &&& 63)) + (((8 - v16).toInt64) <<< ((4 * (7 - x3)).toInt64 &&& 63)))) fun σ89 =>
          grd (inb x3 8) <|
          grd (inb x3 8) <|
          letv (sI σ89 52 (x3.toNatClampNeg) ((mI σ89 52 (x3.toNatClampNeg)) + 1)) fun σ99 =>
          some (1, σ99))
        else
          (some (x2, σ26)))) : Option (Int32 × Mem)) fun s35 =>
    q2 s35 fun y35_2 σ35_ =>
    letv (x3 + 1) fun v102 =>
    rec y35_2 v102 σ35_)
def L_Ma_offersFor_l4 (N : Nat) (a1 : Int32) : Nat → Int32 → Int32 → Mem → Option (Int32 × Mem)
  | 0, _, _, _ => none
  | k + 1, x2, x3, σ => B_Ma_offersFor_l4 N a1 (L_Ma_offersFor_l4 N a1 k) x2 x3 σ
set_option maxHeartbeats 4000000 in
set_option maxRecDepth 20000 in
theorem cL_Ma_offersFor_l4 (Z : ZX) {Y : YX} {post : Option Value → Mem → Prop} {N : Nat} {a1 : Int32} {Good : Int32 × Mem → Prop} (hR : ∀ (v : Int32) (σr : Mem), Good (v, σr) → post (some (.int v)) σr) : ∀ (k : Nat) (x2 : Int32) (x3 : Int32) (σ : Mem) (res : Int32 × Mem), L_Ma_offersFor_l4 N a1 k x2 x3 σ = some res → Good res → V (mkB Z) Y m_Ma_offersFor 0 (QP (mkB Z) Y nC 0 0 post) 0 0 nC σ 4 [(0, rf Z 47), (1, .int a1), (2, .int x2), (3, .int x3)] [] := by
  intro k
  induction k with
  | zero => intro x2 x3 σ res h; cases h
  | succ k ih =>
    intro x2 x3 σ res h hg
    replace h : B_Ma_offersFor_l4 N a1 (L_Ma_offersFor_l4 N a1 k) x2 x3 σ = some res := h
    unfold B_Ma_offersFor_l4 at h
    refine V.iload_n d_Ma_offersFor_4 rfl 3 rfl ?_
    refine V.bipush (v := 8) d_Ma_offersFor_5 (by decide) ?_
    refine V.icmp_ge (tgt := 108) d_Ma_offersFor_7 (by decide) (fun hc7 => ?_) (fun hc7 => ?_)
    · replace h := ite_t hc7 h
      refine V.iload_n d_Ma_offersFor_108 rfl 2 rfl ?_
      obtain ⟨hz, h⟩ := grd_e h
      have hz := congrArg Value.int (of_decide_eq_true hz)
      cases h
      exact V.zret rfl hz d_Ma_offersFor_109 (hR _ _ hg)
    · replace h := ite_f hc7 h
      refine V.aload_n d_Ma_offersFor_10 rfl 0 rfl ?_
      refine V.getR (r := 52) ok_Ma fl_Ma_28 (by decide) (by decide) ly_47 rfl d_Ma_offersFor_11 ?_
      refine V.iload_n d_Ma_offersFor_14 rfl 3 rfl ?_
      obtain ⟨gq, h⟩ := grd_e h
      refine V.ra (by decide) ly_52 (inb_e gq) rfl d_Ma_offersFor_15 ?_
      obtain ⟨v16, e_v16, h⟩ := letv_e h
      refine V.topI e_v16 ?_
      refine V.istore (lv' := [(4, .int v16), (0, rf Z 47), (1, .int a1), (2, .int x2), (3, .int x3)]) d_Ma_offersFor_16 (by decide) rfl ?_
      refine V.aload_n d_Ma_offersFor_18 rfl 1 rfl ?_
      refine V.getR (r := 53) ok_Ma fl_Ma_31 (by decide) (by decide) ly_47 rfl d_Ma_offersFor_19 ?_
      refine V.iload_n d_Ma_offersFor_22 rfl 4 rfl ?_
      refine V.ldc2 (v := (-1)) kl_Ma_73 d_Ma_offersFor_23 ?_
      obtain ⟨gq, h⟩ := grd_e h
      obtain ⟨σ26, e_σ26, h⟩ := letv_e h
      refine V.wl (by decide) ly_53 (inb_e gq) rfl d_Ma_offersFor_26 e_σ26 ?_
      refine V.iload d_Ma_offersFor_27 0 rfl ?_
      refine V.aload_n d_Ma_offersFor_29 rfl 1 rfl ?_
      refine V.getR (r := 51) ok_Ma fl_Ma_25 (by decide) (by decide) ly_47 rfl d_Ma_offersFor_30 ?_
      refine V.iload_n d_Ma_offersFor_33 rfl 4 rfl ?_
      obtain ⟨gq, h⟩ := grd_e h
      refine V.ra (by decide) ly_51 (inb_e gq) rfl d_Ma_offersFor_34 ?_
      obtain ⟨s35, h1, h⟩ := bnd1_e h
      have J35_102 : ∀ (y35_2 : Int32) (σ35_ : Mem), s35 = (y35_2, σ35_) → V (mkB Z) Y m_Ma_offersFor 0 (QP (mkB Z) Y nC 0 0 post) 0 0 nC σ35_ 102 [(0, rf Z 47), (1, .int a1), (2, .int y35_2), (3, .int x3)] [] := by
        intro y35_2 σ35_ he
        rw [he] at h
        replace h := q2_e h
        obtain ⟨v102, e_v102, h⟩ := letv_e h
        refine V.iinc (v := v102) (lv' := [(3, .int v102), (0, rf Z 47), (1, .int a1), (2, .int y35_2)]) d_Ma_offersFor_102 3 rfl (by rw [e_v102]; rfl) (by decide) rfl ?_
        refine V.goto (tgt := 4) d_Ma_offersFor_105 (by decide) ?_
        exact V.pick [1, 2, 3, 0] rfl (ih _ _ _ _ h hg)
      replace h := h1
      refine V.icmp_ge (tgt := 102) d_Ma_offersFor_35 (by decide) (fun hc35 => ?_) (fun hc35 => ?_)
      · replace h := ite_t hc35 h
        exact V.pick [1, 2, 3, 4] rfl (J35_102 _ _ (Option.some.inj h).symm)
      · replace h := ite_f hc35 h
        refine V.aload_n d_Ma_offersFor_38 rfl 1 rfl ?_
        refine V.getR (r := 49) ok_Ma fl_Ma_19 (by decide) (by decide) ly_47 rfl d_Ma_offersFor_39 ?_
        refine V.iload_n d_Ma_offersFor_42 rfl 4 rfl ?_
        refine V.bipush (v := 8) d_Ma_offersFor_43 (by decide) ?_
        refine V.imul d_Ma_offersFor_45 ?_
        refine V.iload d_Ma_offersFor_46 0 rfl ?_
        refine V.iadd d_Ma_offersFor_48 ?_
        obtain ⟨gq, h⟩ := grd_e h
        refine V.ra (by decide) ly_49 (inb_e gq) rfl d_Ma_offersFor_49 ?_
        refine V.iload_n d_Ma_offersFor_50 rfl 2 rfl ?_
        refine V.icmp_ne (tgt := 102) d_Ma_offersFor_51 (by decide) (fun hc51 => ?_) (fun hc51 => ?_)
        · replace h := ite_f hc51 h
          exact V.pick [1, 2, 3, 4] rfl (J35_102 _ _ (Option.some.inj h).symm)
        · replace h := ite_t hc51 h
          refine V.aload_n d_Ma_offersFor_54 rfl 1 rfl ?_
          refine V.getR (r := 53) ok_Ma fl_Ma_31 (by decide) (by decide) ly_47 rfl d_Ma_offersFor_55 ?_
          refine V.iload_n d_Ma_offersFor_58 rfl 4 rfl ?_
          refine V.aload_n d_Ma_offersFor_59 rfl 1 rfl ?_
          refine V.getR (r := 50) ok_Ma fl_Ma_22 (by decide) (by decide) ly_47 rfl d_Ma_offersFor_60 ?_
          refine V.iload_n d_Ma_offersFor_63 rfl 4 rfl ?_
          refine V.bipush (v := 8) d_Ma_offersFor_64 (by decide) ?_
          refine V.imul d_Ma_offersFor_66 ?_
          refine V.iload d_Ma_offersFor_67 0 rfl ?_
          refine V.iadd d_Ma_offersFor_69 ?_
          obtain ⟨gq, h⟩ := grd_e h
          refine V.ra (by decide) ly_50 (inb_e gq) rfl d_Ma_offersFor_70 ?_
          refine V.i2l d_Ma_offersFor_71 ?_
          refine V.bipush (v := 32) d_Ma_offersFor_72 (by decide) ?_
          refine V.lshl d_Ma_offersFor_74 ?_
          refine V.bipush (v := 8) d_Ma_offersFor_75 (by decide) ?_
          refine V.iload d_Ma_offersFor_77 0 rfl ?_
          refine V.isub d_Ma_offersFor_79 ?_
          refine V.i2l d_Ma_offersFor_80 ?_
          refine V.iconst (v := 4) d_Ma_offersFor_81 (by decide) ?_
          refine V.bipush (v := 7) d_Ma_offersFor_82 (by decide) ?_
          refine V.iload_n d_Ma_offersFor_84 rfl 4 rfl ?_
          refine V.isub d_Ma_offersFor_85 ?_
          refine V.imul d_Ma_offersFor_86 ?_
          refine V.lshl d_Ma_offersFor_87 ?_
          refine V.ladd d_Ma_offersFor_88 ?_
          obtain ⟨gq, h⟩ := grd_e h
          obtain ⟨σ89, e_σ89, h⟩ := letv_e h
          refine V.wl (by decide) ly_53 (inb_e gq) rfl d_Ma_offersFor_89 e_σ89 ?_
          refine V.aload_n d_Ma_offersFor_90 rfl 1 rfl ?_
          refine V.getR (r := 52) ok_Ma fl_Ma_28 (by decide) (by decide) ly_47 rfl d_Ma_offersFor_91 ?_
          refine V.iload_n d_Ma_offersFor_94 rfl 4 rfl ?_
          refine V.dup2 d_Ma_offersFor_95 rfl rfl ?_
          obtain ⟨gq, h⟩ := grd_e h
          refine V.ra (by decide) ly_52 (inb_e gq) rfl d_Ma_offersFor_96 ?_
          refine V.iconst (v := 1) d_Ma_offersFor_97 (by decide) ?_
          refine V.iadd d_Ma_offersFor_98 ?_
          obtain ⟨gq, h⟩ := grd_e h
          obtain ⟨σ99, e_σ99, h⟩ := letv_e h
          refine V.wa (by decide) ly_52 (inb_e gq) rfl d_Ma_offersFor_99 e_σ99 ?_
          refine V.iconst (v := 1) d_Ma_offersFor_100 (by decide) ?_
          refine V.istore_n (lv' := [(2, .int 1), (4, .int v16), (0, rf Z 47), (1, .int a1), (3, .int x3)]) d_Ma_offersFor_101 rfl (by decide) rfl ?_
          exact V.pick [2, 3, 0, 4] rfl (J35_102 _ _ (Option.some.inj h).symm)
def f_Ma_offersFor (N : Nat) (σ : Mem) (a1 : Int32) : Option (Int32 × Mem) :=
  L_Ma_offersFor_l4 N a1 N 0 0 σ
set_option maxHeartbeats 4000000 in
set_option maxRecDepth 20000 in
theorem c_Ma_offersFor (Z : ZX) {N : Nat} {σ : Mem} {a1 : Int32} {r : Int32} {σ' : Mem} (h : f_Ma_offersFor N σ a1 = some (r, σ')) : CI Z 0 m_Ma_offersFor [rf Z 47, .int a1] σ r σ' := by
  refine Ct.of (by decide +kernel) (Nat.le_of_ble_eq_true rfl) (fun Y => ?_)
  show V (mkB Z) Y m_Ma_offersFor 0 (QP (mkB Z) Y nC 0 0 (fun v t => v = some (.int r) ∧ t = σ')) 0 0 nC σ 0 [(0, rf Z 47), (1, .int a1)] []
  unfold f_Ma_offersFor at h
  refine V.iconst (v := 0) d_Ma_offersFor_0 (by decide) ?_
  refine V.istore_n (lv' := [(2, .int 0), (0, rf Z 47), (1, .int a1)]) d_Ma_offersFor_1 rfl (by decide) rfl ?_
  refine V.iconst (v := 0) d_Ma_offersFor_2 (by decide) ?_
  refine V.istore_n (lv' := [(3, .int 0), (2, .int 0), (0, rf Z 47), (1, .int a1)]) d_Ma_offersFor_3 rfl (by decide) rfl ?_
  refine V.pick [2, 3, 1, 0] rfl (cL_Ma_offersFor_l4 Z (Good := fun z => z = _) (fun r4v r4m he => ?_) N _ _ _ _ h rfl)
  · cases he
    exact ⟨rfl, rfl⟩
abbrev m_Ma_takeOffersFor : MI := (⟨"ShadeTown$Market", "takeOffersFor", "(I)V"⟩, prog_6_method_18_code, 5, (Option.none : Option Jvm.ClassFile.FieldType))
theorem d_Ma_takeOffersFor_0 : decode prog_6_method_18_code 0 = .ok (.iconst 0, 1) := by decide +kernel
theorem d_Ma_takeOffersFor_1 : decode prog_6_method_18_code 1 = .ok (.istore_n 2, 1) := by decide +kernel
theorem d_Ma_takeOffersFor_2 : decode prog_6_method_18_code 2 = .ok (.iload_n 2, 1) := by decide +kernel
theorem d_Ma_takeOffersFor_3 : decode prog_6_method_18_code 3 = .ok (.bipush 8, 2) := by decide +kernel
theorem d_Ma_takeOffersFor_76 : decode prog_6_method_18_code 76 = .ok (.return_, 1) := by decide +kernel
theorem d_Ma_takeOffersFor_8 : decode prog_6_method_18_code 8 = .ok (.iload_n 1, 1) := by decide +kernel
theorem d_Ma_takeOffersFor_9 : decode prog_6_method_18_code 9 = .ok (.iload_n 2, 1) := by decide +kernel
theorem d_Ma_takeOffersFor_10 : decode prog_6_method_18_code 10 = .ok (.ishr, 1) := by decide +kernel
theorem d_Ma_takeOffersFor_11 : decode prog_6_method_18_code 11 = .ok (.iconst 1, 1) := by decide +kernel
theorem d_Ma_takeOffersFor_12 : decode prog_6_method_18_code 12 = .ok (.iand, 1) := by decide +kernel
theorem d_Ma_takeOffersFor_13 : decode prog_6_method_18_code 13 = .ok (.iconst 1, 1) := by decide +kernel
theorem d_Ma_takeOffersFor_17 : decode prog_6_method_18_code 17 = .ok (.aload_n 0, 1) := by decide +kernel
theorem d_Ma_takeOffersFor_18 : decode prog_6_method_18_code 18 = .ok (.getfield 31, 3) := by decide +kernel
theorem d_Ma_takeOffersFor_21 : decode prog_6_method_18_code 21 = .ok (.iload_n 2, 1) := by decide +kernel
theorem d_Ma_takeOffersFor_22 : decode prog_6_method_18_code 22 = .ok (.laload, 1) := by decide +kernel
theorem d_Ma_takeOffersFor_23 : decode prog_6_method_18_code 23 = .ok (.lconst 0, 1) := by decide +kernel
theorem d_Ma_takeOffersFor_24 : decode prog_6_method_18_code 24 = .ok (.lcmp, 1) := by decide +kernel
theorem d_Ma_takeOffersFor_28 : decode prog_6_method_18_code 28 = .ok (.aload_n 0, 1) := by decide +kernel
theorem d_Ma_takeOffersFor_29 : decode prog_6_method_18_code 29 = .ok (.getfield 35, 3) := by decide +kernel
theorem d_Ma_takeOffersFor_32 : decode prog_6_method_18_code 32 = .ok (.iload_n 1, 1) := by decide +kernel
theorem d_Ma_takeOffersFor_33 : decode prog_6_method_18_code 33 = .ok (.iconst 1, 1) := by decide +kernel
theorem d_Ma_takeOffersFor_34 : decode prog_6_method_18_code 34 = .ok (.iload_n 2, 1) := by decide +kernel
theorem d_Ma_takeOffersFor_35 : decode prog_6_method_18_code 35 = .ok (.ishl, 1) := by decide +kernel
theorem d_Ma_takeOffersFor_36 : decode prog_6_method_18_code 36 = .ok (.iconst (-1), 1) := by decide +kernel
theorem d_Ma_takeOffersFor_37 : decode prog_6_method_18_code 37 = .ok (.ixor, 1) := by decide +kernel
theorem d_Ma_takeOffersFor_38 : decode prog_6_method_18_code 38 = .ok (.iand, 1) := by decide +kernel
theorem d_Ma_takeOffersFor_39 : decode prog_6_method_18_code 39 = .ok (.laload, 1) := by decide +kernel
theorem d_Ma_takeOffersFor_40 : decode prog_6_method_18_code 40 = .ok (.lstore_n 3, 1) := by decide +kernel
theorem d_Ma_takeOffersFor_41 : decode prog_6_method_18_code 41 = .ok (.lload_n 3, 1) := by decide +kernel
theorem d_Ma_takeOffersFor_42 : decode prog_6_method_18_code 42 = .ok (.lconst 0, 1) := by decide +kernel
theorem d_Ma_takeOffersFor_43 : decode prog_6_method_18_code 43 = .ok (.lcmp, 1) := by decide +kernel
theorem d_Ma_takeOffersFor_47 : decode prog_6_method_18_code 47 = .ok (.aload_n 0, 1) := by decide +kernel
theorem d_Ma_takeOffersFor_48 : decode prog_6_method_18_code 48 = .ok (.getfield 35, 3) := by decide +kernel
theorem d_Ma_takeOffersFor_51 : decode prog_6_method_18_code 51 = .ok (.iload_n 1, 1) := by decide +kernel
theorem d_Ma_takeOffersFor_52 : decode prog_6_method_18_code 52 = .ok (.aload_n 0, 1) := by decide +kernel
theorem d_Ma_takeOffersFor_53 : decode prog_6_method_18_code 53 = .ok (.getfield 35, 3) := by decide +kernel
theorem d_Ma_takeOffersFor_56 : decode prog_6_method_18_code 56 = .ok (.iload_n 1, 1) := by decide +kernel
theorem d_Ma_takeOffersFor_57 : decode prog_6_method_18_code 57 = .ok (.laload, 1) := by decide +kernel
theorem d_Ma_takeOffersFor_58 : decode prog_6_method_18_code 58 = .ok (.lload_n 3, 1) := by decide +kernel
theorem d_Ma_takeOffersFor_59 : decode prog_6_method_18_code 59 = .ok (.aload_n 0, 1) := by decide +kernel
theorem d_Ma_takeOffersFor_60 : decode prog_6_method_18_code 60 = .ok (.getfield 31, 3) := by decide +kernel
theorem d_Ma_takeOffersFor_63 : decode prog_6_method_18_code 63 = .ok (.iload_n 2, 1) := by decide +kernel
theorem d_Ma_takeOffersFor_64 : decode prog_6_method_18_code 64 = .ok (.laload, 1) := by decide +kernel
theorem d_Ma_takeOffersFor_65 : decode prog_6_method_18_code 65 = .ok (.ladd, 1) := by decide +kernel
theorem d_Ma_takeOffersFor_66 : decode prog_6_method_18_code 66 = .ok (.invokestatic 125, 3) := by decide +kernel
theorem d_Ma_takeOffersFor_69 : decode prog_6_method_18_code 69 = .ok (.lastore, 1) := by decide +kernel
theorem d_Ma_takeOffersFor_44 : decode prog_6_method_18_code 44 = .ok (.ifCond .lt 26, 3) := by decide +kernel
theorem d_Ma_takeOffersFor_25 : decode prog_6_method_18_code 25 = .ok (.ifCond .lt 45, 3) := by decide +kernel
theorem d_Ma_takeOffersFor_14 : decode prog_6_method_18_code 14 = .ok (.if_icmp .ne 56, 3) := by decide +kernel
theorem d_Ma_takeOffersFor_70 : decode prog_6_method_18_code 70 = .ok (.iinc 2 1, 3) := by decide +kernel
theorem d_Ma_takeOffersFor_73 : decode prog_6_method_18_code 73 = .ok (.goto (-71), 3) := by decide +kernel
theorem d_Ma_takeOffersFor_5 : decode prog_6_method_18_code 5 = .ok (.if_icmp .ge 71, 3) := by decide +kernel
def B_Ma_takeOffersFor_l2 (N : Nat) (a1 : Int32) (rec : Int32 → Mem → Option (Mem)) (x2 : Int32) (σ : Mem) : Option (Mem) :=
  if 8 ≤ x2 then
    (some σ)
  else
    (bnd1 ((
      if (a1 >>> (x2 &&& 31)) &&& 1 = 1 then
        (grd (inb x2 8) <|
        if (lg_cmp (mL σ 53 (x2.toNatClampNeg)) 0) < 0 then
          (some σ)
        else
          (grd (inb (a1 &&& ((1 <<< (x2 &&& 31)) ^^^ (-1))) 256) <|
          letv (mL σ 54 ((a1 &&& ((1 <<< (x2 &&& 31)) ^^^ (-1))).toNatClampNeg)) fun v40 =>
          if (lg_cmp v40 0) < 0 then
            (some σ)
          else
            (grd (inb a1 256) <|
            grd (inb x2 8) <|
            bnd1 (f_JM_max_f86c9 (mL σ 54 (a1.toNatClampNeg)) (v40 + (mL σ 53 (x2.toNatClampNeg)))) fun r66 =>
            grd (inb a1 256) <|
            letv (sL σ 54 (a1.toNatClampNeg) r66) fun σ69 =>
            some σ69)))
      else
        (some σ)) : Option (Mem)) fun σ14_ =>
    letv (x2 + 1) fun v70 =>
    rec v70 σ14_)
def L_Ma_takeOffersFor_l2 (N : Nat) (a1 : Int32) : Nat → Int32 → Mem → Option (Mem)
  | 0, _, _ => none
  | k + 1, x2, σ => B_Ma_takeOffersFor_l2 N a1 (L_Ma_takeOffersFor_l2 N a1 k) x2 σ
set_option maxHeartbeats 4000000 in
set_option maxRecDepth 20000 in
theorem cL_Ma_takeOffersFor_l2 (Z : ZX) {Y : YX} {post : Option Value → Mem → Prop} {N : Nat} {a1 : Int32} {Good : Mem → Prop} (hR : ∀ (σr : Mem), Good σr → post none σr) : ∀ (k : Nat) (x2 : Int32) (σ : Mem) (res : Mem), L_Ma_takeOffersFor_l2 N a1 k x2 σ = some res → Good res → V (mkB Z) Y m_Ma_takeOffersFor 1 (QP (mkB Z) Y nC 0 0 post) 0 0 nC σ 2 [(0, rf Z 47), (1, .int a1), (2, .int x2)] [] := by
  intro k
  induction k with
  | zero => intro x2 σ res h; cases h
  | succ k ih =>
    intro x2 σ res h hg
    replace h : B_Ma_takeOffersFor_l2 N a1 (L_Ma_takeOffersFor_l2 N a1 k) x2 σ = some res := h
    unfold B_Ma_takeOffersFor_l2 at h
    refine V.iload_n d_Ma_takeOffersFor_2 rfl 2 rfl ?_
    refine V.bipush (v := 8) d_Ma_takeOffersFor_3 (by decide) ?_
    refine V.icmp_ge (tgt := 76) d_Ma_takeOffersFor_5 (by decide) (fun hc5 => ?_) (fun hc5 => ?_)
    · replace h := ite_t hc5 h
      cases h
      exact V.vret rfl d_Ma_takeOffersFor_76 (hR _ hg)
    · replace h := ite_f hc5 h
      refine V.iload_n d_Ma_takeOffersFor_8 rfl 1 rfl ?_
      refine V.iload_n d_Ma_takeOffersFor_9 rfl 2 rfl ?_
      refine V.ishr d_Ma_takeOffersFor_10 ?_
      refine V.iconst (v := 1) d_Ma_takeOffersFor_11 (by decide) ?_
      refine V.iand d_Ma_takeOffersFor_12 ?_
      refine V.iconst (v := 1) d_Ma_takeOffersFor_13 (by decide) ?_
      obtain ⟨s14, h1, h⟩ := bnd1_e h
      have J14_70 : ∀ (σ14_ : Mem), s14 = σ14_ → V (mkB Z) Y m_Ma_takeOffersFor 1 (QP (mkB Z) Y nC 0 0 post) 0 0 nC σ14_ 70 [(0, rf Z 47), (1, .int a1), (2, .int x2)] [] := by
        intro σ14_ he
        rw [he] at h
        obtain ⟨v70, e_v70, h⟩ := letv_e h
        refine V.iinc (v := v70) (lv' := [(2, .int v70), (0, rf Z 47), (1, .int a1)]) d_Ma_takeOffersFor_70 2 rfl (by rw [e_v70]; rfl) (by decide) rfl ?_
        refine V.goto (tgt := 2) d_Ma_takeOffersFor_73 (by decide) ?_
        exact V.pick [1, 2, 0] rfl (ih _ _ _ h hg)
      replace h := h1
      refine V.icmp_ne (tgt := 70) d_Ma_takeOffersFor_14 (by decide) (fun hc14 => ?_) (fun hc14 => ?_)
      · replace h := ite_f hc14 h
        exact V.pick [0, 1, 2] rfl (J14_70 _ (Option.some.inj h).symm)
      · replace h := ite_t hc14 h
        refine V.aload_n d_Ma_takeOffersFor_17 rfl 0 rfl ?_
        refine V.getR (r := 53) ok_Ma fl_Ma_31 (by decide) (by decide) ly_47 rfl d_Ma_takeOffersFor_18 ?_
        refine V.iload_n d_Ma_takeOffersFor_21 rfl 2 rfl ?_
        obtain ⟨gq, h⟩ := grd_e h
        refine V.rl (by decide) ly_53 (inb_e gq) rfl d_Ma_takeOffersFor_22 ?_
        refine V.lconst (v := 0) d_Ma_takeOffersFor_23 (by decide) ?_
        refine V.lcmp d_Ma_takeOffersFor_24 ?_
        refine V.if_lt (tgt := 70) d_Ma_takeOffersFor_25 (by decide) (fun hc25 => ?_) (fun hc25 => ?_)
        · replace h := ite_t hc25 h
          exact V.pick [0, 1, 2] rfl (J14_70 _ (Option.some.inj h).symm)
        · replace h := ite_f hc25 h
          refine V.aload_n d_Ma_takeOffersFor_28 rfl 0 rfl ?_
          refine V.getR (r := 54) ok_Ma fl_Ma_35 (by decide) (by decide) ly_47 rfl d_Ma_takeOffersFor_29 ?_
          refine V.iload_n d_Ma_takeOffersFor_32 rfl 1 rfl ?_
          refine V.iconst (v := 1) d_Ma_takeOffersFor_33 (by decide) ?_
          refine V.iload_n d_Ma_takeOffersFor_34 rfl 2 rfl ?_
          refine V.ishl d_Ma_takeOffersFor_35 ?_
          refine V.iconst (v := (-1)) d_Ma_takeOffersFor_36 (by decide) ?_
          refine V.ixor d_Ma_takeOffersFor_37 ?_
          refine V.iand d_Ma_takeOffersFor_38 ?_
          obtain ⟨gq, h⟩ := grd_e h
          refine V.rl (by decide) ly_54 (inb_e gq) rfl d_Ma_takeOffersFor_39 ?_
          obtain ⟨v40, e_v40, h⟩ := letv_e h
          refine V.topL e_v40 ?_
          refine V.lstore_n (lv' := [(3, .long v40), (0, rf Z 47), (1, .int a1), (2, .int x2)]) d_Ma_takeOffersFor_40 rfl (by decide) rfl ?_
          refine V.lload_n d_Ma_takeOffersFor_41 rfl 0 rfl ?_
          refine V.lconst (v := 0) d_Ma_takeOffersFor_42 (by decide) ?_
          refine V.lcmp d_Ma_takeOffersFor_43 ?_
          refine V.if_lt (tgt := 70) d_Ma_takeOffersFor_44 (by decide) (fun hc44 => ?_) (fun hc44 => ?_)
          · replace h := ite_t hc44 h
            exact V.pick [1, 2, 3] rfl (J14_70 _ (Option.some.inj h).symm)
          · replace h := ite_f hc44 h
            refine V.aload_n d_Ma_takeOffersFor_47 rfl 1 rfl ?_
            refine V.getR (r := 54) ok_Ma fl_Ma_35 (by decide) (by decide) ly_47 rfl d_Ma_takeOffersFor_48 ?_
            refine V.iload_n d_Ma_takeOffersFor_51 rfl 2 rfl ?_
            refine V.aload_n d_Ma_takeOffersFor_52 rfl 1 rfl ?_
            refine V.getR (r := 54) ok_Ma fl_Ma_35 (by decide) (by decide) ly_47 rfl d_Ma_takeOffersFor_53 ?_
            refine V.iload_n d_Ma_takeOffersFor_56 rfl 2 rfl ?_
            obtain ⟨gq, h⟩ := grd_e h
            refine V.rl (by decide) ly_54 (inb_e gq) rfl d_Ma_takeOffersFor_57 ?_
            refine V.lload_n d_Ma_takeOffersFor_58 rfl 0 rfl ?_
            refine V.aload_n d_Ma_takeOffersFor_59 rfl 1 rfl ?_
            refine V.getR (r := 53) ok_Ma fl_Ma_31 (by decide) (by decide) ly_47 rfl d_Ma_takeOffersFor_60 ?_
            refine V.iload_n d_Ma_takeOffersFor_63 rfl 3 rfl ?_
            obtain ⟨gq, h⟩ := grd_e h
            refine V.rl (by decide) ly_53 (inb_e gq) rfl d_Ma_takeOffersFor_64 ?_
            refine V.ladd d_Ma_takeOffersFor_65 ?_
            obtain ⟨r66, h1, h⟩ := bnd1_e h
            refine V.sJ (as := [.long (mL σ 54 (a1.toNatClampNeg)), .long (v40 + (mL σ 53 (x2.toNatClampNeg)))]) (st := [.int a1, rf Z 54]) (c_JM_max_f86c9 Z h1) k_JM_max_f86c9 lk_Ma_125 (by decide) rfl rfl (Nat.le_of_ble_eq_true rfl) d_Ma_takeOffersFor_66 ?_
            obtain ⟨gq, h⟩ := grd_e h
            obtain ⟨σ69, e_σ69, h⟩ := letv_e h
            refine V.wl (by decide) ly_54 (inb_e gq) rfl d_Ma_takeOffersFor_69 e_σ69 ?_
            exact V.pick [1, 2, 3] rfl (J14_70 _ (Option.some.inj h).symm)
def f_Ma_takeOffersFor (N : Nat) (σ : Mem) (a1 : Int32) : Option (Mem) :=
  L_Ma_takeOffersFor_l2 N a1 N 0 σ
set_option maxHeartbeats 4000000 in
set_option maxRecDepth 20000 in
theorem c_Ma_takeOffersFor (Z : ZX) {N : Nat} {σ : Mem} {a1 : Int32} {σ' : Mem} (h : f_Ma_takeOffersFor N σ a1 = some σ') : CN Z 1 m_Ma_takeOffersFor [rf Z 47, .int a1] σ σ' := by
  refine Ct.of (by decide +kernel) (Nat.le_of_ble_eq_true rfl) (fun Y => ?_)
  show V (mkB Z) Y m_Ma_takeOffersFor 1 (QP (mkB Z) Y nC 0 0 (fun v t => v = none ∧ t = σ')) 0 0 nC σ 0 [(0, rf Z 47), (1, .int a1)] []
  unfold f_Ma_takeOffersFor at h
  refine V.iconst (v := 0) d_Ma_takeOffersFor_0 (by decide) ?_
  refine V.istore_n (lv' := [(2, .int 0), (0, rf Z 47), (1, .int a1)]) d_Ma_takeOffersFor_1 rfl (by decide) rfl ?_
  refine V.pick [1, 2, 0] rfl (cL_Ma_takeOffersFor_l2 Z (Good := fun z => z = _) (fun r2m he => ?_) N _ _ _ h rfl)
  · cases he
    exact ⟨rfl, rfl⟩
abbrev m_Ma_takeOffers : MI := (⟨"ShadeTown$Market", "takeOffers", "()V"⟩, prog_6_method_17_code, 2, (Option.none : Option Jvm.ClassFile.FieldType))
theorem d_Ma_takeOffers_0 : decode prog_6_method_17_code 0 = .ok (.sipush 255, 3) := by decide +kernel
theorem d_Ma_takeOffers_3 : decode prog_6_method_17_code 3 = .ok (.istore_n 1, 1) := by decide +kernel
theorem d_Ma_takeOffers_4 : decode prog_6_method_17_code 4 = .ok (.iload_n 1, 1) := by decide +kernel
theorem d_Ma_takeOffers_30 : decode prog_6_method_17_code 30 = .ok (.return_, 1) := by decide +kernel
theorem d_Ma_takeOffers_8 : decode prog_6_method_17_code 8 = .ok (.iload_n 1, 1) := by decide +kernel
theorem d_Ma_takeOffers_9 : decode prog_6_method_17_code 9 = .ok (.aload_n 0, 1) := by decide +kernel
theorem fl_Ma_41 : FL "ShadeTown$Market" 41 T_Ma 9 := atG 355 (by decide +kernel) rfl
theorem d_Ma_takeOffers_10 : decode prog_6_method_17_code 10 = .ok (.getfield 41, 3) := by decide +kernel
theorem d_Ma_takeOffers_13 : decode prog_6_method_17_code 13 = .ok (.iconst (-1), 1) := by decide +kernel
theorem d_Ma_takeOffers_14 : decode prog_6_method_17_code 14 = .ok (.ixor, 1) := by decide +kernel
theorem d_Ma_takeOffers_15 : decode prog_6_method_17_code 15 = .ok (.iand, 1) := by decide +kernel
theorem d_Ma_takeOffers_19 : decode prog_6_method_17_code 19 = .ok (.aload_n 0, 1) := by decide +kernel
theorem d_Ma_takeOffers_20 : decode prog_6_method_17_code 20 = .ok (.iload_n 1, 1) := by decide +kernel
theorem d_Ma_takeOffers_21 : decode prog_6_method_17_code 21 = .ok (.invokevirtual 121, 3) := by decide +kernel
theorem k_Ma_takeOffersFor : MOk m_Ma_takeOffersFor 1 ∧ IOk m_Ma_takeOffersFor := ⟨⟨atG 1075 (by decide +kernel) rfl, atG 119 (by decide +kernel) rfl, ⟨by decide, by decide⟩, by decide +kernel, by decide⟩, atG 1074 (by decide +kernel) rfl, atG 31 (by decide +kernel) rfl⟩
theorem lk_Ma_121 : Cond.methodLink "ShadeTown$Market" 121 ⟨"ShadeTown$Market", "takeOffersFor", "(I)V"⟩ ∈ tblG := atG 1072 (by decide +kernel) rfl
theorem d_Ma_takeOffers_16 : decode prog_6_method_17_code 16 = .ok (.ifCond .ne 8, 3) := by decide +kernel
theorem d_Ma_takeOffers_24 : decode prog_6_method_17_code 24 = .ok (.iinc 1 (-1), 3) := by decide +kernel
theorem d_Ma_takeOffers_27 : decode prog_6_method_17_code 27 = .ok (.goto (-23), 3) := by decide +kernel
theorem d_Ma_takeOffers_5 : decode prog_6_method_17_code 5 = .ok (.ifCond .le 25, 3) := by decide +kernel
def B_Ma_takeOffers_l4 (N : Nat) (rec : Int32 → Mem → Option (Mem)) (x1 : Int32) (σ : Mem) : Option (Mem) :=
  if x1 ≤ 0 then
    (some σ)
  else
    (bnd1 ((
      if (x1 &&& ((mI σ 47 9) ^^^ (-1))) = 0 then
        (bnd1 (f_Ma_takeOffersFor N σ x1) fun σ21 =>
        some σ21)
      else
        (some σ)) : Option (Mem)) fun σ16_ =>
    letv (x1 + (-1)) fun v24 =>
    rec v24 σ16_)
def L_Ma_takeOffers_l4 (N : Nat) : Nat → Int32 → Mem → Option (Mem)
  | 0, _, _ => none
  | k + 1, x1, σ => B_Ma_takeOffers_l4 N (L_Ma_takeOffers_l4 N k) x1 σ
set_option maxHeartbeats 4000000 in
set_option maxRecDepth 20000 in
theorem cL_Ma_takeOffers_l4 (Z : ZX) {Y : YX} {post : Option Value → Mem → Prop} {N : Nat} {Good : Mem → Prop} (hR : ∀ (σr : Mem), Good σr → post none σr) : ∀ (k : Nat) (x1 : Int32) (σ : Mem) (res : Mem), L_Ma_takeOffers_l4 N k x1 σ = some res → Good res → V (mkB Z) Y m_Ma_takeOffers 2 (QP (mkB Z) Y nC 0 0 post) 0 0 nC σ 4 [(0, rf Z 47), (1, .int x1)] [] := by
  intro k
  induction k with
  | zero => intro x1 σ res h; cases h
  | succ k ih =>
    intro x1 σ res h hg
    replace h : B_Ma_takeOffers_l4 N (L_Ma_takeOffers_l4 N k) x1 σ = some res := h
    unfold B_Ma_takeOffers_l4 at h
    refine V.iload_n d_Ma_takeOffers_4 rfl 1 rfl ?_
    refine V.if_le (tgt := 30) d_Ma_takeOffers_5 (by decide) (fun hc5 => ?_) (fun hc5 => ?_)
    · replace h := ite_t hc5 h
      cases h
      exact V.vret rfl d_Ma_takeOffers_30 (hR _ hg)
    · replace h := ite_f hc5 h
      refine V.iload_n d_Ma_takeOffers_8 rfl 1 rfl ?_
      refine V.aload_n d_Ma_takeOffers_9 rfl 0 rfl ?_
      refine V.getI ok_Ma fl_Ma_41 (by decide) (by decide) ly_47 rfl d_Ma_takeOffers_10 ?_
      refine V.iconst (v := (-1)) d_Ma_takeOffers_13 (by decide) ?_
      refine V.ixor d_Ma_takeOffers_14 ?_
      refine V.iand d_Ma_takeOffers_15 ?_
      obtain ⟨s16, h1, h⟩ := bnd1_e h
      have J16_24 : ∀ (σ16_ : Mem), s16 = σ16_ → V (mkB Z) Y m_Ma_takeOffers 2 (QP (mkB Z) Y nC 0 0 post) 0 0 nC σ16_ 24 [(0, rf Z 47), (1, .int x1)] [] := by
        intro σ16_ he
        rw [he] at h
        obtain ⟨v24, e_v24, h⟩ := letv_e h
        refine V.iinc (v := v24) (lv' := [(1, .int v24), (0, rf Z 47)]) d_Ma_takeOffers_24 1 rfl (by rw [e_v24]; rfl) (by decide) rfl ?_
        refine V.goto (tgt := 4) d_Ma_takeOffers_27 (by decide) ?_
        exact V.pick [1, 0] rfl (ih _ _ _ h hg)
      replace h := h1
      refine V.if_ne (tgt := 24) d_Ma_takeOffers_16 (by decide) (fun hc16 => ?_) (fun hc16 => ?_)
      · replace h := ite_f hc16 h
        exact V.pick [0, 1] rfl (J16_24 _ (Option.some.inj h).symm)
      · replace h := ite_t hc16 h
        refine V.aload_n d_Ma_takeOffers_19 rfl 0 rfl ?_
        refine V.iload_n d_Ma_takeOffers_20 rfl 1 rfl ?_
        obtain ⟨σ21, h1, h⟩ := bnd1_e h
        refine V.vN (as := [.int x1]) (st := []) (c_Ma_takeOffersFor Z h1) k_Ma_takeOffersFor lk_Ma_121 (by decide) rfl (by decide) ly_47 ok_Ma.1 rfl (Nat.le_of_ble_eq_true rfl) d_Ma_takeOffers_21 ?_
        exact V.pick [0, 1] rfl (J16_24 _ (Option.some.inj h).symm)
def f_Ma_takeOffers (N : Nat) (σ : Mem) : Option (Mem) :=
  L_Ma_takeOffers_l4 N N 255 σ
set_option maxHeartbeats 4000000 in
set_option maxRecDepth 20000 in
theorem c_Ma_takeOffers (Z : ZX) {N : Nat} {σ : Mem} {σ' : Mem} (h : f_Ma_takeOffers N σ = some σ') : CN Z 2 m_Ma_takeOffers [rf Z 47] σ σ' := by
  refine Ct.of (by decide +kernel) (Nat.le_of_ble_eq_true rfl) (fun Y => ?_)
  show V (mkB Z) Y m_Ma_takeOffers 2 (QP (mkB Z) Y nC 0 0 (fun v t => v = none ∧ t = σ')) 0 0 nC σ 0 [(0, rf Z 47)] []
  unfold f_Ma_takeOffers at h
  refine V.sipush (v := 255) d_Ma_takeOffers_0 (by decide) ?_
  refine V.istore_n (lv' := [(1, .int 255), (0, rf Z 47)]) d_Ma_takeOffers_3 rfl (by decide) rfl ?_
  refine V.pick [1, 0] rfl (cL_Ma_takeOffers_l4 Z (Good := fun z => z = _) (fun r4m he => ?_) N _ _ _ h rfl)
  · cases he
    exact ⟨rfl, rfl⟩
abbrev m_Ma_sell : MI := (⟨"ShadeTown$Market", "sell", "(LShadeTown$Day;II)V"⟩, prog_6_method_8_code, 5, (Option.none : Option Jvm.ClassFile.FieldType))
theorem d_Ma_sell_0 : decode prog_6_method_8_code 0 = .ok (.aload_n 0, 1) := by decide +kernel
theorem d_Ma_sell_1 : decode prog_6_method_8_code 1 = .ok (.iload_n 3, 1) := by decide +kernel
theorem d_Ma_sell_2 : decode prog_6_method_8_code 2 = .ok (.putfield 41, 3) := by decide +kernel
theorem d_Ma_sell_5 : decode prog_6_method_8_code 5 = .ok (.iconst 0, 1) := by decide +kernel
theorem d_Ma_sell_6 : decode prog_6_method_8_code 6 = .ok (.istore 4, 2) := by decide +kernel
theorem d_Ma_sell_8 : decode prog_6_method_8_code 8 = .ok (.iload 4, 2) := by decide +kernel
theorem d_Ma_sell_10 : decode prog_6_method_8_code 10 = .ok (.bipush 8, 2) := by decide +kernel
theorem d_Ma_sell_15 : decode prog_6_method_8_code 15 = .ok (.aload_n 0, 1) := by decide +kernel
theorem d_Ma_sell_16 : decode prog_6_method_8_code 16 = .ok (.getfield 25, 3) := by decide +kernel
theorem d_Ma_sell_19 : decode prog_6_method_8_code 19 = .ok (.iload 4, 2) := by decide +kernel
theorem d_Ma_sell_21 : decode prog_6_method_8_code 21 = .ok (.iconst 0, 1) := by decide +kernel
theorem d_Ma_sell_22 : decode prog_6_method_8_code 22 = .ok (.iastore, 1) := by decide +kernel
theorem d_Ma_sell_23 : decode prog_6_method_8_code 23 = .ok (.aload_n 0, 1) := by decide +kernel
theorem d_Ma_sell_24 : decode prog_6_method_8_code 24 = .ok (.getfield 28, 3) := by decide +kernel
theorem d_Ma_sell_27 : decode prog_6_method_8_code 27 = .ok (.iload 4, 2) := by decide +kernel
theorem d_Ma_sell_29 : decode prog_6_method_8_code 29 = .ok (.iconst 0, 1) := by decide +kernel
theorem d_Ma_sell_30 : decode prog_6_method_8_code 30 = .ok (.iastore, 1) := by decide +kernel
theorem d_Ma_sell_31 : decode prog_6_method_8_code 31 = .ok (.iload_n 3, 1) := by decide +kernel
theorem d_Ma_sell_32 : decode prog_6_method_8_code 32 = .ok (.iload 4, 2) := by decide +kernel
theorem d_Ma_sell_34 : decode prog_6_method_8_code 34 = .ok (.ishr, 1) := by decide +kernel
theorem d_Ma_sell_35 : decode prog_6_method_8_code 35 = .ok (.iconst 1, 1) := by decide +kernel
theorem d_Ma_sell_36 : decode prog_6_method_8_code 36 = .ok (.iand, 1) := by decide +kernel
theorem d_Ma_sell_37 : decode prog_6_method_8_code 37 = .ok (.iconst 1, 1) := by decide +kernel
theorem d_Ma_sell_41 : decode prog_6_method_8_code 41 = .ok (.aload_n 0, 1) := by decide +kernel
theorem d_Ma_sell_42 : decode prog_6_method_8_code 42 = .ok (.aload_n 1, 1) := by decide +kernel
theorem d_Ma_sell_43 : decode prog_6_method_8_code 43 = .ok (.iload 4, 2) := by decide +kernel
theorem d_Ma_sell_45 : decode prog_6_method_8_code 45 = .ok (.iload_n 2, 1) := by decide +kernel
theorem d_Ma_sell_46 : decode prog_6_method_8_code 46 = .ok (.invokevirtual 69, 3) := by decide +kernel
theorem k_Ma_findWanted : MOk m_Ma_findWanted 3 ∧ IOk m_Ma_findWanted := ⟨⟨atG 1053 (by decide +kernel) rfl, atG 119 (by decide +kernel) rfl, ⟨by decide, by decide⟩, by decide +kernel, by decide⟩, atG 1052 (by decide +kernel) rfl, atG 27 (by decide +kernel) rfl⟩
theorem lk_Ma_69 : Cond.methodLink "ShadeTown$Market" 69 ⟨"ShadeTown$Market", "findWanted", "(LShadeTown$Day;II)V"⟩ ∈ tblG := atG 1050 (by decide +kernel) rfl
theorem d_Ma_sell_38 : decode prog_6_method_8_code 38 = .ok (.if_icmp .ne 11, 3) := by decide +kernel
theorem d_Ma_sell_49 : decode prog_6_method_8_code 49 = .ok (.iinc 4 1, 3) := by decide +kernel
theorem d_Ma_sell_52 : decode prog_6_method_8_code 52 = .ok (.goto (-44), 3) := by decide +kernel
theorem d_Ma_sell_12 : decode prog_6_method_8_code 12 = .ok (.if_icmp .ge 43, 3) := by decide +kernel
theorem d_Ma_sell_55 : decode prog_6_method_8_code 55 = .ok (.aload_n 0, 1) := by decide +kernel
theorem d_Ma_sell_56 : decode prog_6_method_8_code 56 = .ok (.getfield 35, 3) := by decide +kernel
theorem d_Ma_sell_59 : decode prog_6_method_8_code 59 = .ok (.ldc2_w 73, 3) := by decide +kernel
theorem d_Ma_sell_62 : decode prog_6_method_8_code 62 = .ok (.invokestatic 75, 3) := by decide +kernel
theorem k_JA_fill_d0a16 : MOk m_JA_fill_d0a16 2 ∧ Cond.static m_JA_fill_d0a16.1 ∈ tblG := ⟨⟨atG 1063 (by decide +kernel) rfl, atG 130 (by decide +kernel) rfl, ⟨by decide, by decide⟩, by decide +kernel, by decide⟩, atG 1062 (by decide +kernel) rfl⟩
theorem lk_Ma_75 : Cond.methodLink "ShadeTown$Market" 75 ⟨"java/util/Arrays", "fill", "([JJ)V"⟩ ∈ tblG := atG 1061 (by decide +kernel) rfl
theorem d_Ma_sell_65 : decode prog_6_method_8_code 65 = .ok (.aload_n 0, 1) := by decide +kernel
theorem d_Ma_sell_66 : decode prog_6_method_8_code 66 = .ok (.getfield 35, 3) := by decide +kernel
theorem d_Ma_sell_69 : decode prog_6_method_8_code 69 = .ok (.iconst 0, 1) := by decide +kernel
theorem d_Ma_sell_70 : decode prog_6_method_8_code 70 = .ok (.lconst 0, 1) := by decide +kernel
theorem d_Ma_sell_71 : decode prog_6_method_8_code 71 = .ok (.lastore, 1) := by decide +kernel
theorem d_Ma_sell_72 : decode prog_6_method_8_code 72 = .ok (.iconst 0, 1) := by decide +kernel
theorem d_Ma_sell_73 : decode prog_6_method_8_code 73 = .ok (.istore 4, 2) := by decide +kernel
theorem d_Ma_sell_75 : decode prog_6_method_8_code 75 = .ok (.iload 4, 2) := by decide +kernel
theorem d_Ma_sell_77 : decode prog_6_method_8_code 77 = .ok (.sipush 144, 3) := by decide +kernel
theorem d_Ma_sell_102 : decode prog_6_method_8_code 102 = .ok (.aload_n 0, 1) := by decide +kernel
theorem d_Ma_sell_103 : decode prog_6_method_8_code 103 = .ok (.aload_n 0, 1) := by decide +kernel
theorem d_Ma_sell_104 : decode prog_6_method_8_code 104 = .ok (.iload_n 3, 1) := by decide +kernel
theorem d_Ma_sell_105 : decode prog_6_method_8_code 105 = .ok (.invokevirtual 87, 3) := by decide +kernel
theorem k_Ma_bestOf : MOk m_Ma_bestOf 1 ∧ IOk m_Ma_bestOf := ⟨⟨atG 1082 (by decide +kernel) rfl, atG 119 (by decide +kernel) rfl, ⟨by decide, by decide⟩, by decide +kernel, by decide⟩, atG 1081 (by decide +kernel) rfl, atG 32 (by decide +kernel) rfl⟩
theorem lk_Ma_87 : Cond.methodLink "ShadeTown$Market" 87 ⟨"ShadeTown$Market", "bestOf", "(I)J"⟩ ∈ tblG := atG 1079 (by decide +kernel) rfl
theorem fl_Ma_44 : FL "ShadeTown$Market" 44 T_Ma 10 := atG 356 (by decide +kernel) rfl
theorem d_Ma_sell_108 : decode prog_6_method_8_code 108 = .ok (.putfield 44, 3) := by decide +kernel
theorem d_Ma_sell_111 : decode prog_6_method_8_code 111 = .ok (.return_, 1) := by decide +kernel
theorem d_Ma_sell_83 : decode prog_6_method_8_code 83 = .ok (.aload_n 0, 1) := by decide +kernel
theorem d_Ma_sell_84 : decode prog_6_method_8_code 84 = .ok (.iload 4, 2) := by decide +kernel
theorem d_Ma_sell_86 : decode prog_6_method_8_code 86 = .ok (.invokevirtual 81, 3) := by decide +kernel
theorem k_Ma_offersFor : MOk m_Ma_offersFor 1 ∧ IOk m_Ma_offersFor := ⟨⟨atG 1067 (by decide +kernel) rfl, atG 119 (by decide +kernel) rfl, ⟨by decide, by decide⟩, by decide +kernel, by decide⟩, atG 1066 (by decide +kernel) rfl, atG 29 (by decide +kernel) rfl⟩
theorem lk_Ma_81 : Cond.methodLink "ShadeTown$Market" 81 ⟨"ShadeTown$Market", "offersFor", "(I)Z"⟩ ∈ tblG := atG 1064 (by decide +kernel) rfl
theorem d_Ma_sell_92 : decode prog_6_method_8_code 92 = .ok (.aload_n 0, 1) := by decide +kernel
theorem d_Ma_sell_93 : decode prog_6_method_8_code 93 = .ok (.invokevirtual 84, 3) := by decide +kernel
theorem k_Ma_takeOffers : MOk m_Ma_takeOffers 0 ∧ IOk m_Ma_takeOffers := ⟨⟨atG 1071 (by decide +kernel) rfl, atG 119 (by decide +kernel) rfl, ⟨by decide, by decide⟩, by decide +kernel, by decide⟩, atG 1070 (by decide +kernel) rfl, atG 30 (by decide +kernel) rfl⟩
theorem lk_Ma_84 : Cond.methodLink "ShadeTown$Market" 84 ⟨"ShadeTown$Market", "takeOffers", "()V"⟩ ∈ tblG := atG 1068 (by decide +kernel) rfl
theorem d_Ma_sell_89 : decode prog_6_method_8_code 89 = .ok (.ifCond .eq 7, 3) := by decide +kernel
theorem d_Ma_sell_96 : decode prog_6_method_8_code 96 = .ok (.iinc 4 1, 3) := by decide +kernel
theorem d_Ma_sell_99 : decode prog_6_method_8_code 99 = .ok (.goto (-24), 3) := by decide +kernel
theorem d_Ma_sell_80 : decode prog_6_method_8_code 80 = .ok (.if_icmp .ge 22, 3) := by decide +kernel
def B_Ma_sell_l8 (N : Nat) (a2 : Int32) (a3 : Int32) (rec : Int32 → Mem → Option (Mem)) (x4 : Int32) (σ : Mem) : Option (Mem) :=
  if 8 ≤ x4 then
    (some σ)
  else
    (grd (inb x4 8) <|
    letv (sI σ 51 (x4.toNatClampNeg) 0) fun σ22 =>
    grd (inb x4 8) <|
    letv (sI σ22 52 (x4.toNatClampNeg) 0) fun σ30 =>
    bnd1 ((
      if (a3 >>> (x4 &&& 31)) &&& 1 = 1 then
        (bnd1 (f_Ma_findWanted N σ30 x4 a2) fun σ46 =>
        some σ46)
      else
        (some σ30)) : Option (Mem)) fun σ38_ =>
    letv (x4 + 1) fun v49 =>
    rec v49 σ38_)
def L_Ma_sell_l8 (N : Nat) (a2 : Int32) (a3 : Int32) : Nat → Int32 → Mem → Option (Mem)
  | 0, _, _ => none
  | k + 1, x4, σ => B_Ma_sell_l8 N a2 a3 (L_Ma_sell_l8 N a2 a3 k) x4 σ
set_option maxHeartbeats 4000000 in
set_option maxRecDepth 20000 in
theorem cL_Ma_sell_l8 (Z : ZX) {Y : YX} {Q : State → Prop} {N : Nat} {a2 : Int32} {a3 : Int32} {Good : Mem → Prop} (hE : ∀ (σe : Mem), Good σe → V (mkB Z) Y m_Ma_sell 6 Q 0 0 nC σe 55 [(0, rf Z 47), (3, .int a3)] []) : ∀ (k : Nat) (x4 : Int32) (σ : Mem) (res : Mem), L_Ma_sell_l8 N a2 a3 k x4 σ = some res → Good res → V (mkB Z) Y m_Ma_sell 6 Q 0 0 nC σ 8 [(0, rf Z 47), (1, rf Z 33), (2, .int a2), (3, .int a3), (4, .int x4)] [] := by
  intro k
  induction k with
  | zero => intro x4 σ res h; cases h
  | succ k ih =>
    intro x4 σ res h hg
    replace h : B_Ma_sell_l8 N a2 a3 (L_Ma_sell_l8 N a2 a3 k) x4 σ = some res := h
    unfold B_Ma_sell_l8 at h
    refine V.iload d_Ma_sell_8 4 rfl ?_
    refine V.bipush (v := 8) d_Ma_sell_10 (by decide) ?_
    refine V.icmp_ge (tgt := 55) d_Ma_sell_12 (by decide) (fun hc12 => ?_) (fun hc12 => ?_)
    · replace h := ite_t hc12 h
      cases h
      exact V.pick [0, 3] rfl (hE _ hg)
    · replace h := ite_f hc12 h
      refine V.aload_n d_Ma_sell_15 rfl 0 rfl ?_
      refine V.getR (r := 51) ok_Ma fl_Ma_25 (by decide) (by decide) ly_47 rfl d_Ma_sell_16 ?_
      refine V.iload d_Ma_sell_19 4 rfl ?_
      refine V.iconst (v := 0) d_Ma_sell_21 (by decide) ?_
      obtain ⟨gq, h⟩ := grd_e h
      obtain ⟨σ22, e_σ22, h⟩ := letv_e h
      refine V.wa (by decide) ly_51 (inb_e gq) rfl d_Ma_sell_22 e_σ22 ?_
      refine V.aload_n d_Ma_sell_23 rfl 0 rfl ?_
      refine V.getR (r := 52) ok_Ma fl_Ma_28 (by decide) (by decide) ly_47 rfl d_Ma_sell_24 ?_
      refine V.iload d_Ma_sell_27 4 rfl ?_
      refine V.iconst (v := 0) d_Ma_sell_29 (by decide) ?_
      obtain ⟨gq, h⟩ := grd_e h
      obtain ⟨σ30, e_σ30, h⟩ := letv_e h
      refine V.wa (by decide) ly_52 (inb_e gq) rfl d_Ma_sell_30 e_σ30 ?_
      refine V.iload_n d_Ma_sell_31 rfl 3 rfl ?_
      refine V.iload d_Ma_sell_32 4 rfl ?_
      refine V.ishr d_Ma_sell_34 ?_
      refine V.iconst (v := 1) d_Ma_sell_35 (by decide) ?_
      refine V.iand d_Ma_sell_36 ?_
      refine V.iconst (v := 1) d_Ma_sell_37 (by decide) ?_
      obtain ⟨s38, h1, h⟩ := bnd1_e h
      have J38_49 : ∀ (σ38_ : Mem), s38 = σ38_ → V (mkB Z) Y m_Ma_sell 6 Q 0 0 nC σ38_ 49 [(0, rf Z 47), (1, rf Z 33), (2, .int a2), (3, .int a3), (4, .int x4)] [] := by
        intro σ38_ he
        rw [he] at h
        obtain ⟨v49, e_v49, h⟩ := letv_e h
        refine V.iinc (v := v49) (lv' := [(4, .int v49), (0, rf Z 47), (1, rf Z 33), (2, .int a2), (3, .int a3)]) d_Ma_sell_49 4 rfl (by rw [e_v49]; rfl) (by decide) rfl ?_
        refine V.goto (tgt := 8) d_Ma_sell_52 (by decide) ?_
        exact V.pick [1, 2, 3, 4, 0] rfl (ih _ _ _ h hg)
      replace h := h1
      refine V.icmp_ne (tgt := 49) d_Ma_sell_38 (by decide) (fun hc38 => ?_) (fun hc38 => ?_)
      · replace h := ite_f hc38 h
        exact V.pick [0, 1, 2, 3, 4] rfl (J38_49 _ (Option.some.inj h).symm)
      · replace h := ite_t hc38 h
        refine V.aload_n d_Ma_sell_41 rfl 0 rfl ?_
        refine V.aload_n d_Ma_sell_42 rfl 1 rfl ?_
        refine V.iload d_Ma_sell_43 4 rfl ?_
        refine V.iload_n d_Ma_sell_45 rfl 2 rfl ?_
        obtain ⟨σ46, h1, h⟩ := bnd1_e h
        refine V.vN (as := [rf Z 33, .int x4, .int a2]) (st := []) (c_Ma_findWanted Z h1) k_Ma_findWanted lk_Ma_69 (by decide) rfl (by decide) ly_47 ok_Ma.1 rfl (Nat.le_of_ble_eq_true rfl) d_Ma_sell_46 ?_
        exact V.pick [0, 1, 2, 3, 4] rfl (J38_49 _ (Option.some.inj h).symm)
def B_Ma_sell_l75 (N : Nat) (a3 : Int32) (rec : Int32 → Mem → Option (Mem)) (x4 : Int32) (σ : Mem) : Option (Mem) :=
  if 144 ≤ x4 then
    (bnd1 (f_Ma_bestOf N σ a3) fun r105 =>
    letv (sL σ 47 10 r105) fun σ108 =>
    some σ108)
  else
    (bnd2 (f_Ma_offersFor N σ x4) fun r86 σ86 =>
    bnd1 ((
      if r86 = 0 then
        (some σ86)
      else
        (bnd1 (f_Ma_takeOffers N σ86) fun σ93 =>
        some σ93)) : Option (Mem)) fun σ89_ =>
    letv (x4 + 1) fun v96 =>
    rec v96 σ89_)
def L_Ma_sell_l75 (N : Nat) (a3 : Int32) : Nat → Int32 → Mem → Option (Mem)
  | 0, _, _ => none
  | k + 1, x4, σ => B_Ma_sell_l75 N a3 (L_Ma_sell_l75 N a3 k) x4 σ
set_option maxHeartbeats 4000000 in
set_option maxRecDepth 20000 in
theorem cL_Ma_sell_l75 (Z : ZX) {Y : YX} {post : Option Value → Mem → Prop} {N : Nat} {a3 : Int32} {Good : Mem → Prop} (hR : ∀ (σr : Mem), Good σr → post none σr) : ∀ (k : Nat) (x4 : Int32) (σ : Mem) (res : Mem), L_Ma_sell_l75 N a3 k x4 σ = some res → Good res → V (mkB Z) Y m_Ma_sell 6 (QP (mkB Z) Y nC 0 0 post) 0 0 nC σ 75 [(0, rf Z 47), (3, .int a3), (4, .int x4)] [] := by
  intro k
  induction k with
  | zero => intro x4 σ res h; cases h
  | succ k ih =>
    intro x4 σ res h hg
    replace h : B_Ma_sell_l75 N a3 (L_Ma_sell_l75 N a3 k) x4 σ = some res := h
    unfold B_Ma_sell_l75 at h
    refine V.iload d_Ma_sell_75 2 rfl ?_
    refine V.sipush (v := 144) d_Ma_sell_77 (by decide) ?_
    refine V.icmp_ge (tgt := 102) d_Ma_sell_80 (by decide) (fun hc80 => ?_) (fun hc80 => ?_)
    · replace h := ite_t hc80 h
      refine V.aload_n d_Ma_sell_102 rfl 0 rfl ?_
      refine V.aload_n d_Ma_sell_103 rfl 0 rfl ?_
      refine V.iload_n d_Ma_sell_104 rfl 1 rfl ?_
      obtain ⟨r105, h1, h⟩ := bnd1_e h
      refine V.vJ (as := [.int a3]) (st := [rf Z 47]) (c_Ma_bestOf Z h1) k_Ma_bestOf lk_Ma_87 (by decide) rfl (by decide) ly_47 ok_Ma.1 rfl (Nat.le_of_ble_eq_true rfl) d_Ma_sell_105 ?_
      obtain ⟨σ108, e_σ108, h⟩ := letv_e h
      refine V.putL ok_Ma fl_Ma_44 (by decide) (by decide) ly_47 rfl rfl rfl rfl d_Ma_sell_108 (V.mem e_σ108 ?_)
      cases h
      exact V.vret rfl d_Ma_sell_111 (hR _ hg)
    · replace h := ite_f hc80 h
      refine V.aload_n d_Ma_sell_83 rfl 0 rfl ?_
      refine V.iload d_Ma_sell_84 2 rfl ?_
      obtain ⟨r86, σ86, h1, h⟩ := bnd2_e h
      refine V.vI (as := [.int x4]) (st := []) (c_Ma_offersFor Z h1) k_Ma_offersFor lk_Ma_81 (by decide) rfl (by decide) ly_47 ok_Ma.1 rfl (Nat.le_of_ble_eq_true rfl) d_Ma_sell_86 ?_
      obtain ⟨s89, h1, h⟩ := bnd1_e h
      have J89_96 : ∀ (σ89_ : Mem), s89 = σ89_ → V (mkB Z) Y m_Ma_sell 6 (QP (mkB Z) Y nC 0 0 post) 0 0 nC σ89_ 96 [(0, rf Z 47), (3, .int a3), (4, .int x4)] [] := by
        intro σ89_ he
        rw [he] at h
        obtain ⟨v96, e_v96, h⟩ := letv_e h
        refine V.iinc (v := v96) (lv' := [(4, .int v96), (0, rf Z 47), (3, .int a3)]) d_Ma_sell_96 2 rfl (by rw [e_v96]; rfl) (by decide) rfl ?_
        refine V.goto (tgt := 75) d_Ma_sell_99 (by decide) ?_
        exact V.pick [1, 2, 0] rfl (ih _ _ _ h hg)
      replace h := h1
      refine V.if_eq (tgt := 96) d_Ma_sell_89 (by decide) (fun hc89 => ?_) (fun hc89 => ?_)
      · replace h := ite_t hc89 h
        exact V.pick [0, 1, 2] rfl (J89_96 _ (Option.some.inj h).symm)
      · replace h := ite_f hc89 h
        refine V.aload_n d_Ma_sell_92 rfl 0 rfl ?_
        obtain ⟨σ93, h1, h⟩ := bnd1_e h
        refine V.vN (as := []) (st := []) (c_Ma_takeOffers Z h1) k_Ma_takeOffers lk_Ma_84 (by decide) rfl (by decide) ly_47 ok_Ma.1 rfl (Nat.le_of_ble_eq_true rfl) d_Ma_sell_93 ?_
        exact V.pick [0, 1, 2] rfl (J89_96 _ (Option.some.inj h).symm)
def f_Ma_sell (N : Nat) (σ : Mem) (a2 : Int32) (a3 : Int32) : Option (Mem) :=
  letv (sI σ 47 9 a3) fun σ2 =>
  bnd1 (L_Ma_sell_l8 N a2 a3 N 0 σ2) fun σ8_ =>
  bnd1 (f_JA_fill_d0a16 N σ8_ 54 256 (-1)) fun σ62 =>
  letv (sL σ62 54 0 0) fun σ71 =>
  L_Ma_sell_l75 N a3 N 0 σ71
set_option maxHeartbeats 4000000 in
set_option maxRecDepth 20000 in
theorem c_Ma_sell (Z : ZX) {N : Nat} {σ : Mem} {a2 : Int32} {a3 : Int32} {σ' : Mem} (h : f_Ma_sell N σ a2 a3 = some σ') : CN Z 6 m_Ma_sell [rf Z 47, rf Z 33, .int a2, .int a3] σ σ' := by
  refine Ct.of (by decide +kernel) (Nat.le_of_ble_eq_true rfl) (fun Y => ?_)
  show V (mkB Z) Y m_Ma_sell 6 (QP (mkB Z) Y nC 0 0 (fun v t => v = none ∧ t = σ')) 0 0 nC σ 0 [(0, rf Z 47), (1, rf Z 33), (2, .int a2), (3, .int a3)] []
  unfold f_Ma_sell at h
  refine V.aload_n d_Ma_sell_0 rfl 0 rfl ?_
  refine V.iload_n d_Ma_sell_1 rfl 3 rfl ?_
  obtain ⟨σ2, e_σ2, h⟩ := letv_e h
  refine V.putI ok_Ma fl_Ma_41 (by decide) (by decide) ly_47 rfl rfl rfl rfl d_Ma_sell_2 (V.mem e_σ2 ?_)
  refine V.iconst (v := 0) d_Ma_sell_5 (by decide) ?_
  refine V.istore (lv' := [(4, .int 0), (0, rf Z 47), (1, rf Z 33), (2, .int a2), (3, .int a3)]) d_Ma_sell_6 (by decide) rfl ?_
  obtain ⟨x8_, h1, h⟩ := bnd1_e h
  refine V.pick [1, 2, 3, 4, 0] rfl (cL_Ma_sell_l8 Z (Good := fun z => x8_ = z) (fun σ8_ he => ?_) N _ _ _ h1 rfl)
  · rw [he] at h
    refine V.aload_n d_Ma_sell_55 rfl 0 rfl ?_
    refine V.getR (r := 54) ok_Ma fl_Ma_35 (by decide) (by decide) ly_47 rfl d_Ma_sell_56 ?_
    refine V.ldc2 (v := (-1)) kl_Ma_73 d_Ma_sell_59 ?_
    obtain ⟨σ62, h1, h⟩ := bnd1_e h
    refine V.sN (as := [rf Z 54, .long (-1)]) (st := []) (c_JA_fill_d0a16 Z (by decide) ly_54 h1) k_JA_fill_d0a16 lk_Ma_75 (by decide) rfl rfl (Nat.le_of_ble_eq_true rfl) d_Ma_sell_62 ?_
    refine V.aload_n d_Ma_sell_65 rfl 0 rfl ?_
    refine V.getR (r := 54) ok_Ma fl_Ma_35 (by decide) (by decide) ly_47 rfl d_Ma_sell_66 ?_
    refine V.iconst (v := 0) d_Ma_sell_69 (by decide) ?_
    refine V.lconst (v := 0) d_Ma_sell_70 (by decide) ?_
    obtain ⟨σ71, e_σ71, h⟩ := letv_e h
    refine V.wl (j := 0) (by decide) ly_54 (inb_e (by decide)) (by decide) d_Ma_sell_71 e_σ71 ?_
    refine V.iconst (v := 0) d_Ma_sell_72 (by decide) ?_
    refine V.istore (lv' := [(4, .int 0), (0, rf Z 47), (3, .int a3)]) d_Ma_sell_73 (by decide) rfl ?_
    refine V.pick [1, 2, 0] rfl (cL_Ma_sell_l75 Z (Good := fun z => z = _) (fun r75m he => ?_) N _ _ _ h rfl)
    · cases he
      exact ⟨rfl, rfl⟩
