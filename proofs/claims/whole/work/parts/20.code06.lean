abbrev m_Da_askSquare : MI := (⟨"ShadeTown$Day", "askSquare", "(II)V"⟩, prog_3_method_17_code, 4, (Option.none : Option Jvm.ClassFile.FieldType))
theorem d_Da_askSquare_0 : decode prog_3_method_17_code 0 = .ok (.aload_n 0, 1) := by decide +kernel
theorem d_Da_askSquare_1 : decode prog_3_method_17_code 1 = .ok (.iload_n 1, 1) := by decide +kernel
theorem d_Da_askSquare_2 : decode prog_3_method_17_code 2 = .ok (.iload_n 2, 1) := by decide +kernel
theorem d_Da_askSquare_3 : decode prog_3_method_17_code 3 = .ok (.invokevirtual 62, 3) := by decide +kernel
theorem lk_Da_62 : Cond.methodLink "ShadeTown$Day" 62 ⟨"ShadeTown$Day", "whoCasts", "(II)I"⟩ ∈ tblG := atG 871 (by decide +kernel) rfl
theorem d_Da_askSquare_6 : decode prog_3_method_17_code 6 = .ok (.invokestatic 68, 3) := by decide +kernel
theorem k_JI_bitCount_0f7a4 : MOk m_JI_bitCount_0f7a4 1 ∧ Cond.static m_JI_bitCount_0f7a4.1 ∈ tblG := ⟨⟨atG 874 (by decide +kernel) rfl, atG 131 (by decide +kernel) rfl, ⟨by decide, by decide⟩, by decide +kernel, by decide⟩, atG 873 (by decide +kernel) rfl⟩
theorem lk_Da_68 : Cond.methodLink "ShadeTown$Day" 68 ⟨"java/lang/Integer", "bitCount", "(I)I"⟩ ∈ tblG := atG 872 (by decide +kernel) rfl
theorem d_Da_askSquare_9 : decode prog_3_method_17_code 9 = .ok (.istore_n 3, 1) := by decide +kernel
theorem d_Da_askSquare_10 : decode prog_3_method_17_code 10 = .ok (.aload_n 0, 1) := by decide +kernel
theorem d_Da_askSquare_11 : decode prog_3_method_17_code 11 = .ok (.getfield 45, 3) := by decide +kernel
theorem d_Da_askSquare_14 : decode prog_3_method_17_code 14 = .ok (.iload_n 1, 1) := by decide +kernel
theorem d_Da_askSquare_15 : decode prog_3_method_17_code 15 = .ok (.aload_n 0, 1) := by decide +kernel
theorem d_Da_askSquare_16 : decode prog_3_method_17_code 16 = .ok (.getfield 41, 3) := by decide +kernel
theorem d_Da_askSquare_19 : decode prog_3_method_17_code 19 = .ok (.getfield 74, 3) := by decide +kernel
theorem d_Da_askSquare_22 : decode prog_3_method_17_code 22 = .ok (.invokevirtual 80, 3) := by decide +kernel
theorem d_Da_askSquare_25 : decode prog_3_method_17_code 25 = .ok (.aload_n 0, 1) := by decide +kernel
theorem d_Da_askSquare_26 : decode prog_3_method_17_code 26 = .ok (.getfield 45, 3) := by decide +kernel
theorem d_Da_askSquare_29 : decode prog_3_method_17_code 29 = .ok (.iload_n 2, 1) := by decide +kernel
theorem d_Da_askSquare_30 : decode prog_3_method_17_code 30 = .ok (.iload_n 3, 1) := by decide +kernel
theorem d_Da_askSquare_31 : decode prog_3_method_17_code 31 = .ok (.invokevirtual 86, 3) := by decide +kernel
theorem k_La_askSquare : MOk m_La_askSquare 2 ∧ IOk m_La_askSquare := ⟨⟨atG 881 (by decide +kernel) rfl, atG 113 (by decide +kernel) rfl, ⟨by decide, by decide⟩, by decide +kernel, by decide⟩, atG 879 (by decide +kernel) rfl, atG 880 (by decide +kernel) rfl⟩
theorem lk_Da_86 : Cond.methodLink "ShadeTown$Day" 86 ⟨"ShadeTown$Law", "askSquare", "(II)V"⟩ ∈ tblG := atG 878 (by decide +kernel) rfl
theorem d_Da_askSquare_34 : decode prog_3_method_17_code 34 = .ok (.return_, 1) := by decide +kernel
def f_Da_askSquare (N : Nat) (σ : Mem) (a1 : Int32) (a2 : Int32) : Option (Mem) :=
  bnd1 (f_Da_whoCasts σ a1 a2) fun r3 =>
  bnd1 (f_JI_bitCount_0f7a4 r3) fun r6 =>
  bnd1 (f_La_askHour N σ a1 (mI σ 19 8)) fun σ22 =>
  bnd1 (f_La_askSquare σ22 a2 r6) fun σ31 =>
  some σ31
set_option maxHeartbeats 4000000 in
set_option maxRecDepth 20000 in
theorem c_Da_askSquare (Z : ZX) {N : Nat} {σ : Mem} {a1 : Int32} {a2 : Int32} {σ' : Mem} (h : f_Da_askSquare N σ a1 a2 = some σ') : CN Z 2 m_Da_askSquare [rf Z 33, .int a1, .int a2] σ σ' := by
  refine Ct.of (by decide +kernel) (Nat.le_of_ble_eq_true rfl) (fun Y => ?_)
  show V (mkB Z) Y m_Da_askSquare 2 (QP (mkB Z) Y nC 0 0 (fun v t => v = none ∧ t = σ')) 0 0 nC σ 0 [(0, rf Z 33), (1, .int a1), (2, .int a2)] []
  unfold f_Da_askSquare at h
  refine V.aload_n d_Da_askSquare_0 rfl 0 rfl ?_
  refine V.iload_n d_Da_askSquare_1 rfl 1 rfl ?_
  refine V.iload_n d_Da_askSquare_2 rfl 2 rfl ?_
  obtain ⟨r3, h1, h⟩ := bnd1_e h
  refine V.vI (as := [.int a1, .int a2]) (st := []) (c_Da_whoCasts Z h1) k_Da_whoCasts lk_Da_62 (by decide) rfl (by decide) ly_33 ok_Da.1 rfl (Nat.le_of_ble_eq_true rfl) d_Da_askSquare_3 ?_
  obtain ⟨r6, h1, h⟩ := bnd1_e h
  refine V.sI (as := [.int r3]) (st := []) (c_JI_bitCount_0f7a4 Z h1) k_JI_bitCount_0f7a4 lk_Da_68 (by decide) rfl rfl (Nat.le_of_ble_eq_true rfl) d_Da_askSquare_6 ?_
  refine V.istore_n (lv' := [(3, .int r6), (0, rf Z 33), (1, .int a1), (2, .int a2)]) d_Da_askSquare_9 rfl (by decide) rfl ?_
  refine V.aload_n d_Da_askSquare_10 rfl 1 rfl ?_
  refine V.getR (r := 3) ok_Da fl_Da_45 (by decide) (by decide) ly_33 rfl d_Da_askSquare_11 ?_
  refine V.iload_n d_Da_askSquare_14 rfl 2 rfl ?_
  refine V.aload_n d_Da_askSquare_15 rfl 1 rfl ?_
  refine V.getR (r := 19) ok_Da fl_Da_41 (by decide) (by decide) ly_33 rfl d_Da_askSquare_16 ?_
  refine V.getI ok_To fl_Da_74 (by decide) (by decide) ly_19 rfl d_Da_askSquare_19 ?_
  obtain ⟨σ22, h1, h⟩ := bnd1_e h
  refine V.vN (as := [.int a1, .int (mI σ 19 8)]) (st := []) (c_La_askHour Z h1) k_La_askHour lk_Da_80 (by decide) rfl (by decide) ly_3 ok_La.1 rfl (Nat.le_of_ble_eq_true rfl) d_Da_askSquare_22 ?_
  refine V.aload_n d_Da_askSquare_25 rfl 1 rfl ?_
  refine V.getR (r := 3) ok_Da fl_Da_45 (by decide) (by decide) ly_33 rfl d_Da_askSquare_26 ?_
  refine V.iload_n d_Da_askSquare_29 rfl 3 rfl ?_
  refine V.iload_n d_Da_askSquare_30 rfl 0 rfl ?_
  obtain ⟨σ31, h1, h⟩ := bnd1_e h
  refine V.vN (as := [.int a2, .int r6]) (st := []) (c_La_askSquare Z h1) k_La_askSquare lk_Da_86 (by decide) rfl (by decide) ly_3 ok_La.1 rfl (Nat.le_of_ble_eq_true rfl) d_Da_askSquare_31 ?_
  cases h
  exact V.vret rfl d_Da_askSquare_34 ⟨rfl, rfl⟩
abbrev m_Da_priceOf : MI := (⟨"ShadeTown$Day", "priceOf", "(II)I"⟩, prog_3_method_18_code, 3, (Option.some Jvm.ClassFile.FieldType.int))
theorem d_Da_priceOf_0 : decode prog_3_method_18_code 0 = .ok (.aload_n 0, 1) := by decide +kernel
theorem d_Da_priceOf_1 : decode prog_3_method_18_code 1 = .ok (.iload_n 1, 1) := by decide +kernel
theorem d_Da_priceOf_2 : decode prog_3_method_18_code 2 = .ok (.iload_n 2, 1) := by decide +kernel
theorem d_Da_priceOf_3 : decode prog_3_method_18_code 3 = .ok (.invokevirtual 89, 3) := by decide +kernel
theorem k_Da_askSquare : MOk m_Da_askSquare 2 ∧ IOk m_Da_askSquare := ⟨⟨atG 870 (by decide +kernel) rfl, atG 116 (by decide +kernel) rfl, ⟨by decide, by decide⟩, by decide +kernel, by decide⟩, atG 868 (by decide +kernel) rfl, atG 869 (by decide +kernel) rfl⟩
theorem lk_Da_89 : Cond.methodLink "ShadeTown$Day" 89 ⟨"ShadeTown$Day", "askSquare", "(II)V"⟩ ∈ tblG := atG 867 (by decide +kernel) rfl
theorem d_Da_priceOf_6 : decode prog_3_method_18_code 6 = .ok (.aload_n 0, 1) := by decide +kernel
theorem d_Da_priceOf_7 : decode prog_3_method_18_code 7 = .ok (.getfield 45, 3) := by decide +kernel
theorem d_Da_priceOf_10 : decode prog_3_method_18_code 10 = .ok (.bipush 112, 2) := by decide +kernel
theorem d_Da_priceOf_12 : decode prog_3_method_18_code 12 = .ok (.iconst 0, 1) := by decide +kernel
theorem d_Da_priceOf_13 : decode prog_3_method_18_code 13 = .ok (.bipush 99, 2) := by decide +kernel
theorem d_Da_priceOf_15 : decode prog_3_method_18_code 15 = .ok (.invokevirtual 90, 3) := by decide +kernel
theorem d_Da_priceOf_18 : decode prog_3_method_18_code 18 = .ok (.ireturn, 1) := by decide +kernel
def f_Da_priceOf (N : Nat) (σ : Mem) (a1 : Int32) (a2 : Int32) : Option (Int32 × Mem) :=
  bnd1 (f_Da_askSquare N σ a1 a2) fun σ3 =>
  bnd2 (f_La_valueOf N σ3 112 0 99) fun r15 σ15 =>
  some (r15, σ15)
set_option maxHeartbeats 4000000 in
set_option maxRecDepth 20000 in
theorem c_Da_priceOf (Z : ZX) {N : Nat} {σ : Mem} {a1 : Int32} {a2 : Int32} {r : Int32} {σ' : Mem} (h : f_Da_priceOf N σ a1 a2 = some (r, σ')) : CI Z 3 m_Da_priceOf [rf Z 33, .int a1, .int a2] σ r σ' := by
  refine Ct.of (by decide +kernel) (Nat.le_of_ble_eq_true rfl) (fun Y => ?_)
  show V (mkB Z) Y m_Da_priceOf 3 (QP (mkB Z) Y nC 0 0 (fun v t => v = some (.int r) ∧ t = σ')) 0 0 nC σ 0 [(0, rf Z 33), (1, .int a1), (2, .int a2)] []
  unfold f_Da_priceOf at h
  refine V.aload_n d_Da_priceOf_0 rfl 0 rfl ?_
  refine V.iload_n d_Da_priceOf_1 rfl 1 rfl ?_
  refine V.iload_n d_Da_priceOf_2 rfl 2 rfl ?_
  obtain ⟨σ3, h1, h⟩ := bnd1_e h
  refine V.vN (as := [.int a1, .int a2]) (st := []) (c_Da_askSquare Z h1) k_Da_askSquare lk_Da_89 (by decide) rfl (by decide) ly_33 ok_Da.1 rfl (Nat.le_of_ble_eq_true rfl) d_Da_priceOf_3 ?_
  refine V.aload_n d_Da_priceOf_6 rfl 0 rfl ?_
  refine V.getR (r := 3) ok_Da fl_Da_45 (by decide) (by decide) ly_33 rfl d_Da_priceOf_7 ?_
  refine V.bipush (v := 112) d_Da_priceOf_10 (by decide) ?_
  refine V.iconst (v := 0) d_Da_priceOf_12 (by decide) ?_
  refine V.bipush (v := 99) d_Da_priceOf_13 (by decide) ?_
  obtain ⟨r15, σ15, h1, h⟩ := bnd2_e h
  refine V.vI (as := [.int 112, .int 0, .int 99]) (st := []) (c_La_valueOf Z h1) k_La_valueOf lk_Da_90 (by decide) rfl (by decide) ly_3 ok_La.1 rfl (Nat.le_of_ble_eq_true rfl) d_Da_priceOf_15 ?_
  cases h
  exact V.iret rfl d_Da_priceOf_18 ⟨rfl, rfl⟩
abbrev m_Sh_price : MI := (⟨"ShadeTown", "price", "(III)I"⟩, prog_1_method_12_code, 4, (Option.some Jvm.ClassFile.FieldType.int))
theorem d_Sh_price_0 : decode prog_1_method_12_code 0 = .ok (.iload_n 1, 1) := by decide +kernel
theorem d_Sh_price_1 : decode prog_1_method_12_code 1 = .ok (.iload_n 2, 1) := by decide +kernel
theorem d_Sh_price_2 : decode prog_1_method_12_code 2 = .ok (.invokestatic 119, 3) := by decide +kernel
theorem d_Sh_price_15 : decode prog_1_method_12_code 15 = .ok (.iconst (-1), 1) := by decide +kernel
theorem d_Sh_price_16 : decode prog_1_method_12_code 16 = .ok (.ireturn, 1) := by decide +kernel
theorem d_Sh_price_8 : decode prog_1_method_12_code 8 = .ok (.iload_n 3, 1) := by decide +kernel
theorem d_Sh_price_9 : decode prog_1_method_12_code 9 = .ok (.invokestatic 178, 3) := by decide +kernel
theorem d_Sh_price_17 : decode prog_1_method_12_code 17 = .ok (.aload_n 0, 1) := by decide +kernel
theorem d_Sh_price_18 : decode prog_1_method_12_code 18 = .ok (.invokevirtual 181, 3) := by decide +kernel
theorem d_Sh_price_21 : decode prog_1_method_12_code 21 = .ok (.iload_n 3, 1) := by decide +kernel
theorem d_Sh_price_22 : decode prog_1_method_12_code 22 = .ok (.bipush 12, 2) := by decide +kernel
theorem d_Sh_price_24 : decode prog_1_method_12_code 24 = .ok (.iload_n 2, 1) := by decide +kernel
theorem d_Sh_price_25 : decode prog_1_method_12_code 25 = .ok (.imul, 1) := by decide +kernel
theorem d_Sh_price_26 : decode prog_1_method_12_code 26 = .ok (.iload_n 1, 1) := by decide +kernel
theorem d_Sh_price_27 : decode prog_1_method_12_code 27 = .ok (.iadd, 1) := by decide +kernel
theorem d_Sh_price_28 : decode prog_1_method_12_code 28 = .ok (.invokevirtual 201, 3) := by decide +kernel
theorem k_Da_priceOf : MOk m_Da_priceOf 2 ∧ IOk m_Da_priceOf := ⟨⟨atG 866 (by decide +kernel) rfl, atG 116 (by decide +kernel) rfl, ⟨by decide, by decide⟩, by decide +kernel, by decide⟩, atG 864 (by decide +kernel) rfl, atG 865 (by decide +kernel) rfl⟩
theorem lk_Sh_201 : Cond.methodLink "ShadeTown" 201 ⟨"ShadeTown$Day", "priceOf", "(II)I"⟩ ∈ tblG := atG 863 (by decide +kernel) rfl
theorem d_Sh_price_31 : decode prog_1_method_12_code 31 = .ok (.ireturn, 1) := by decide +kernel
theorem d_Sh_price_12 : decode prog_1_method_12_code 12 = .ok (.ifCond .ne 5, 3) := by decide +kernel
theorem d_Sh_price_5 : decode prog_1_method_12_code 5 = .ok (.ifCond .eq 10, 3) := by decide +kernel
def f_Sh_price (N : Nat) (σ : Mem) (a1 : Int32) (a2 : Int32) (a3 : Int32) : Option (Int32 × Mem) :=
  bnd1 (f_Sh_inTown a1 a2) fun r2 =>
  if r2 = 0 then
    (some ((-1), σ))
  else
    (bnd1 (f_Sh_isHour a3) fun r9 =>
    if r9 = 0 then
      (some ((-1), σ))
    else
      (bnd1 (f_Sh_today N σ) fun σ18 =>
      bnd2 (f_Da_priceOf N σ18 a3 ((12 * a2) + a1)) fun r28 σ28 =>
      some (r28, σ28)))
set_option maxHeartbeats 4000000 in
set_option maxRecDepth 20000 in
theorem c_Sh_price (Z : ZX) {N : Nat} {σ : Mem} {a1 : Int32} {a2 : Int32} {a3 : Int32} {r : Int32} {σ' : Mem} (h : f_Sh_price N σ a1 a2 a3 = some (r, σ')) : CI Z 6 m_Sh_price [rf Z 0, .int a1, .int a2, .int a3] σ r σ' := by
  refine Ct.of (by decide +kernel) (Nat.le_of_ble_eq_true rfl) (fun Y => ?_)
  show V (mkB Z) Y m_Sh_price 6 (QP (mkB Z) Y nC 0 0 (fun v t => v = some (.int r) ∧ t = σ')) 0 0 nC σ 0 [(0, rf Z 0), (1, .int a1), (2, .int a2), (3, .int a3)] []
  unfold f_Sh_price at h
  refine V.iload_n d_Sh_price_0 rfl 1 rfl ?_
  refine V.iload_n d_Sh_price_1 rfl 2 rfl ?_
  obtain ⟨r2, h1, h⟩ := bnd1_e h
  refine V.sI (as := [.int a1, .int a2]) (st := []) (c_Sh_inTown Z h1) k_Sh_inTown lk_Sh_119 (by decide) rfl rfl (Nat.le_of_ble_eq_true rfl) d_Sh_price_2 ?_
  refine V.if_eq (tgt := 15) d_Sh_price_5 (by decide) (fun hc5 => ?_) (fun hc5 => ?_)
  · replace h := ite_t hc5 h
    refine V.iconst (v := (-1)) d_Sh_price_15 (by decide) ?_
    cases h
    exact V.iret rfl d_Sh_price_16 ⟨rfl, rfl⟩
  · replace h := ite_f hc5 h
    refine V.iload_n d_Sh_price_8 rfl 3 rfl ?_
    obtain ⟨r9, h1, h⟩ := bnd1_e h
    refine V.sI (as := [.int a3]) (st := []) (c_Sh_isHour Z h1) k_Sh_isHour lk_Sh_178 (by decide) rfl rfl (Nat.le_of_ble_eq_true rfl) d_Sh_price_9 ?_
    refine V.if_ne (tgt := 17) d_Sh_price_12 (by decide) (fun hc12 => ?_) (fun hc12 => ?_)
    · replace h := ite_f hc12 h
      refine V.aload_n d_Sh_price_17 rfl 0 rfl ?_
      obtain ⟨σ18, h1, h⟩ := bnd1_e h
      refine V.vA (as := []) (st := []) (c_Sh_today Z h1) k_Sh_today lk_Sh_181 (by decide) rfl (by decide) ly_0 ok_Sh.1 rfl (Nat.le_of_ble_eq_true rfl) d_Sh_price_18 ?_
      refine V.iload_n d_Sh_price_21 rfl 3 rfl ?_
      refine V.bipush (v := 12) d_Sh_price_22 (by decide) ?_
      refine V.iload_n d_Sh_price_24 rfl 2 rfl ?_
      refine V.imul d_Sh_price_25 ?_
      refine V.iload_n d_Sh_price_26 rfl 1 rfl ?_
      refine V.iadd d_Sh_price_27 ?_
      obtain ⟨r28, σ28, h1, h⟩ := bnd2_e h
      refine V.vI (as := [.int a3, .int ((12 * a2) + a1)]) (st := []) (c_Da_priceOf Z h1) k_Da_priceOf lk_Sh_201 (by decide) rfl (by decide) ly_33 ok_Da.1 rfl (Nat.le_of_ble_eq_true rfl) d_Sh_price_28 ?_
      cases h
      exact V.iret rfl d_Sh_price_31 ⟨rfl, rfl⟩
    · replace h := ite_t hc12 h
      refine V.iconst (v := (-1)) d_Sh_price_15 (by decide) ?_
      cases h
      exact V.iret rfl d_Sh_price_16 ⟨rfl, rfl⟩
abbrev m_Da_squaresOf : MI := (⟨"ShadeTown$Day", "squaresOf", "(II)I"⟩, prog_3_method_14_code, 5, (Option.some Jvm.ClassFile.FieldType.int))
theorem d_Da_squaresOf_0 : decode prog_3_method_14_code 0 = .ok (.iconst 0, 1) := by decide +kernel
theorem d_Da_squaresOf_1 : decode prog_3_method_14_code 1 = .ok (.istore_n 3, 1) := by decide +kernel
theorem d_Da_squaresOf_2 : decode prog_3_method_14_code 2 = .ok (.iconst 0, 1) := by decide +kernel
theorem d_Da_squaresOf_3 : decode prog_3_method_14_code 3 = .ok (.istore 4, 2) := by decide +kernel
theorem d_Da_squaresOf_5 : decode prog_3_method_14_code 5 = .ok (.iload 4, 2) := by decide +kernel
theorem d_Da_squaresOf_7 : decode prog_3_method_14_code 7 = .ok (.sipush 144, 3) := by decide +kernel
theorem d_Da_squaresOf_33 : decode prog_3_method_14_code 33 = .ok (.iload_n 3, 1) := by decide +kernel
theorem d_Da_squaresOf_34 : decode prog_3_method_14_code 34 = .ok (.ireturn, 1) := by decide +kernel
theorem d_Da_squaresOf_13 : decode prog_3_method_14_code 13 = .ok (.iload_n 3, 1) := by decide +kernel
theorem d_Da_squaresOf_14 : decode prog_3_method_14_code 14 = .ok (.aload_n 0, 1) := by decide +kernel
theorem d_Da_squaresOf_15 : decode prog_3_method_14_code 15 = .ok (.iload_n 2, 1) := by decide +kernel
theorem d_Da_squaresOf_16 : decode prog_3_method_14_code 16 = .ok (.iload 4, 2) := by decide +kernel
theorem d_Da_squaresOf_18 : decode prog_3_method_14_code 18 = .ok (.invokevirtual 62, 3) := by decide +kernel
theorem d_Da_squaresOf_21 : decode prog_3_method_14_code 21 = .ok (.iload_n 1, 1) := by decide +kernel
theorem d_Da_squaresOf_22 : decode prog_3_method_14_code 22 = .ok (.ishr, 1) := by decide +kernel
theorem d_Da_squaresOf_23 : decode prog_3_method_14_code 23 = .ok (.iconst 1, 1) := by decide +kernel
theorem d_Da_squaresOf_24 : decode prog_3_method_14_code 24 = .ok (.iand, 1) := by decide +kernel
theorem d_Da_squaresOf_25 : decode prog_3_method_14_code 25 = .ok (.iadd, 1) := by decide +kernel
theorem d_Da_squaresOf_26 : decode prog_3_method_14_code 26 = .ok (.istore_n 3, 1) := by decide +kernel
theorem d_Da_squaresOf_27 : decode prog_3_method_14_code 27 = .ok (.iinc 4 1, 3) := by decide +kernel
theorem d_Da_squaresOf_30 : decode prog_3_method_14_code 30 = .ok (.goto (-25), 3) := by decide +kernel
theorem d_Da_squaresOf_10 : decode prog_3_method_14_code 10 = .ok (.if_icmp .ge 23, 3) := by decide +kernel
def B_Da_squaresOf_l5 (N : Nat) (a1 : Int32) (a2 : Int32) (σ : Mem) (rec : Int32 → Int32 → Option (Int32)) (x3 : Int32) (x4 : Int32) : Option (Int32) :=
  if 144 ≤ x4 then
    (some x3)
  else
    (bnd1 (f_Da_whoCasts σ a2 x4) fun r18 =>
    letv (x3 + ((r18 >>> (a1 &&& 31)) &&& 1)) fun v26 =>
    letv (x4 + 1) fun v27 =>
    rec v26 v27)
def L_Da_squaresOf_l5 (N : Nat) (a1 : Int32) (a2 : Int32) (σ : Mem) : Nat → Int32 → Int32 → Option (Int32)
  | 0, _, _ => none
  | k + 1, x3, x4 => B_Da_squaresOf_l5 N a1 a2 σ (L_Da_squaresOf_l5 N a1 a2 σ k) x3 x4
set_option maxHeartbeats 4000000 in
set_option maxRecDepth 20000 in
theorem cL_Da_squaresOf_l5 (Z : ZX) {Y : YX} {post : Option Value → Mem → Prop} {N : Nat} {a1 : Int32} {a2 : Int32} {σ : Mem} {Good : Int32 → Prop} (hR : ∀ (v : Int32), Good v → post (some (.int v)) σ) : ∀ (k : Nat) (x3 : Int32) (x4 : Int32) (res : Int32), L_Da_squaresOf_l5 N a1 a2 σ k x3 x4 = some res → Good res → V (mkB Z) Y m_Da_squaresOf 2 (QP (mkB Z) Y nC 0 0 post) 0 0 nC σ 5 [(0, rf Z 33), (1, .int a1), (2, .int a2), (3, .int x3), (4, .int x4)] [] := by
  intro k
  induction k with
  | zero => intro x3 x4 res h; cases h
  | succ k ih =>
    intro x3 x4 res h hg
    replace h : B_Da_squaresOf_l5 N a1 a2 σ (L_Da_squaresOf_l5 N a1 a2 σ k) x3 x4 = some res := h
    unfold B_Da_squaresOf_l5 at h
    refine V.iload d_Da_squaresOf_5 4 rfl ?_
    refine V.sipush (v := 144) d_Da_squaresOf_7 (by decide) ?_
    refine V.icmp_ge (tgt := 33) d_Da_squaresOf_10 (by decide) (fun hc10 => ?_) (fun hc10 => ?_)
    · replace h := ite_t hc10 h
      refine V.iload_n d_Da_squaresOf_33 rfl 3 rfl ?_
      cases h
      exact V.iret rfl d_Da_squaresOf_34 (hR _ hg)
    · replace h := ite_f hc10 h
      refine V.iload_n d_Da_squaresOf_13 rfl 3 rfl ?_
      refine V.aload_n d_Da_squaresOf_14 rfl 0 rfl ?_
      refine V.iload_n d_Da_squaresOf_15 rfl 2 rfl ?_
      refine V.iload d_Da_squaresOf_16 4 rfl ?_
      obtain ⟨r18, h1, h⟩ := bnd1_e h
      refine V.vI (as := [.int a2, .int x4]) (st := [.int x3]) (c_Da_whoCasts Z h1) k_Da_whoCasts lk_Da_62 (by decide) rfl (by decide) ly_33 ok_Da.1 rfl (Nat.le_of_ble_eq_true rfl) d_Da_squaresOf_18 ?_
      refine V.iload_n d_Da_squaresOf_21 rfl 1 rfl ?_
      refine V.ishr d_Da_squaresOf_22 ?_
      refine V.iconst (v := 1) d_Da_squaresOf_23 (by decide) ?_
      refine V.iand d_Da_squaresOf_24 ?_
      refine V.iadd d_Da_squaresOf_25 ?_
      obtain ⟨v26, e_v26, h⟩ := letv_e h
      refine V.topI e_v26 ?_
      refine V.istore_n (lv' := [(3, .int v26), (0, rf Z 33), (1, .int a1), (2, .int a2), (4, .int x4)]) d_Da_squaresOf_26 rfl (by decide) rfl ?_
      obtain ⟨v27, e_v27, h⟩ := letv_e h
      refine V.iinc (v := v27) (lv' := [(4, .int v27), (3, .int v26), (0, rf Z 33), (1, .int a1), (2, .int a2)]) d_Da_squaresOf_27 4 rfl (by rw [e_v27]; rfl) (by decide) rfl ?_
      refine V.goto (tgt := 5) d_Da_squaresOf_30 (by decide) ?_
      exact V.pick [2, 3, 4, 1, 0] rfl (ih _ _ _ h hg)
def f_Da_squaresOf (N : Nat) (σ : Mem) (a1 : Int32) (a2 : Int32) : Option (Int32) :=
  L_Da_squaresOf_l5 N a1 a2 σ N 0 0
set_option maxHeartbeats 4000000 in
set_option maxRecDepth 20000 in
theorem c_Da_squaresOf (Z : ZX) {N : Nat} {σ : Mem} {a1 : Int32} {a2 : Int32} {r : Int32} (h : f_Da_squaresOf N σ a1 a2 = some r) : CI Z 2 m_Da_squaresOf [rf Z 33, .int a1, .int a2] σ r σ := by
  refine Ct.of (by decide +kernel) (Nat.le_of_ble_eq_true rfl) (fun Y => ?_)
  show V (mkB Z) Y m_Da_squaresOf 2 (QP (mkB Z) Y nC 0 0 (fun v t => v = some (.int r) ∧ t = σ)) 0 0 nC σ 0 [(0, rf Z 33), (1, .int a1), (2, .int a2)] []
  unfold f_Da_squaresOf at h
  refine V.iconst (v := 0) d_Da_squaresOf_0 (by decide) ?_
  refine V.istore_n (lv' := [(3, .int 0), (0, rf Z 33), (1, .int a1), (2, .int a2)]) d_Da_squaresOf_1 rfl (by decide) rfl ?_
  refine V.iconst (v := 0) d_Da_squaresOf_2 (by decide) ?_
  refine V.istore (lv' := [(4, .int 0), (3, .int 0), (0, rf Z 33), (1, .int a1), (2, .int a2)]) d_Da_squaresOf_3 (by decide) rfl ?_
  refine V.pick [2, 3, 4, 1, 0] rfl (cL_Da_squaresOf_l5 Z (Good := fun z => z = _) (fun r5v he => ?_) N _ _ _ h rfl)
  · cases he
    exact ⟨rfl, rfl⟩
abbrev m_Sh_cast : MI := (⟨"ShadeTown", "cast", "(II)I"⟩, prog_1_method_13_code, 6, (Option.some Jvm.ClassFile.FieldType.int))
theorem d_Sh_cast_0 : decode prog_1_method_13_code 0 = .ok (.aload_n 0, 1) := by decide +kernel
theorem d_Sh_cast_1 : decode prog_1_method_13_code 1 = .ok (.getfield 38, 3) := by decide +kernel
theorem d_Sh_cast_4 : decode prog_1_method_13_code 4 = .ok (.iload_n 1, 1) := by decide +kernel
theorem d_Sh_cast_5 : decode prog_1_method_13_code 5 = .ok (.invokevirtual 163, 3) := by decide +kernel
theorem d_Sh_cast_21 : decode prog_1_method_13_code 21 = .ok (.iconst (-1), 1) := by decide +kernel
theorem d_Sh_cast_22 : decode prog_1_method_13_code 22 = .ok (.ireturn, 1) := by decide +kernel
theorem d_Sh_cast_11 : decode prog_1_method_13_code 11 = .ok (.iload_n 2, 1) := by decide +kernel
theorem d_Sh_cast_15 : decode prog_1_method_13_code 15 = .ok (.iload_n 2, 1) := by decide +kernel
theorem d_Sh_cast_16 : decode prog_1_method_13_code 16 = .ok (.bipush 24, 2) := by decide +kernel
theorem d_Sh_cast_23 : decode prog_1_method_13_code 23 = .ok (.aload_n 0, 1) := by decide +kernel
theorem d_Sh_cast_24 : decode prog_1_method_13_code 24 = .ok (.invokevirtual 181, 3) := by decide +kernel
theorem d_Sh_cast_27 : decode prog_1_method_13_code 27 = .ok (.astore_n 3, 1) := by decide +kernel
theorem d_Sh_cast_28 : decode prog_1_method_13_code 28 = .ok (.iload_n 2, 1) := by decide +kernel
theorem d_Sh_cast_29 : decode prog_1_method_13_code 29 = .ok (.bipush 24, 2) := by decide +kernel
theorem d_Sh_cast_41 : decode prog_1_method_13_code 41 = .ok (.iconst 0, 1) := by decide +kernel
theorem d_Sh_cast_42 : decode prog_1_method_13_code 42 = .ok (.istore 4, 2) := by decide +kernel
theorem d_Sh_cast_44 : decode prog_1_method_13_code 44 = .ok (.iconst 0, 1) := by decide +kernel
theorem d_Sh_cast_45 : decode prog_1_method_13_code 45 = .ok (.istore 5, 2) := by decide +kernel
theorem d_Sh_cast_47 : decode prog_1_method_13_code 47 = .ok (.iload 5, 2) := by decide +kernel
theorem d_Sh_cast_49 : decode prog_1_method_13_code 49 = .ok (.bipush 24, 2) := by decide +kernel
theorem d_Sh_cast_72 : decode prog_1_method_13_code 72 = .ok (.iload 4, 2) := by decide +kernel
theorem d_Sh_cast_74 : decode prog_1_method_13_code 74 = .ok (.ireturn, 1) := by decide +kernel
theorem d_Sh_cast_54 : decode prog_1_method_13_code 54 = .ok (.iload 4, 2) := by decide +kernel
theorem d_Sh_cast_56 : decode prog_1_method_13_code 56 = .ok (.aload_n 3, 1) := by decide +kernel
theorem d_Sh_cast_57 : decode prog_1_method_13_code 57 = .ok (.iload_n 1, 1) := by decide +kernel
theorem d_Sh_cast_58 : decode prog_1_method_13_code 58 = .ok (.iload 5, 2) := by decide +kernel
theorem d_Sh_cast_60 : decode prog_1_method_13_code 60 = .ok (.invokevirtual 204, 3) := by decide +kernel
theorem k_Da_squaresOf : MOk m_Da_squaresOf 2 ∧ IOk m_Da_squaresOf := ⟨⟨atG 889 (by decide +kernel) rfl, atG 116 (by decide +kernel) rfl, ⟨by decide, by decide⟩, by decide +kernel, by decide⟩, atG 887 (by decide +kernel) rfl, atG 888 (by decide +kernel) rfl⟩
theorem lk_Sh_204 : Cond.methodLink "ShadeTown" 204 ⟨"ShadeTown$Day", "squaresOf", "(II)I"⟩ ∈ tblG := atG 886 (by decide +kernel) rfl
theorem d_Sh_cast_63 : decode prog_1_method_13_code 63 = .ok (.iadd, 1) := by decide +kernel
theorem d_Sh_cast_64 : decode prog_1_method_13_code 64 = .ok (.istore 4, 2) := by decide +kernel
theorem d_Sh_cast_66 : decode prog_1_method_13_code 66 = .ok (.iinc 5 1, 3) := by decide +kernel
theorem d_Sh_cast_69 : decode prog_1_method_13_code 69 = .ok (.goto (-22), 3) := by decide +kernel
theorem d_Sh_cast_51 : decode prog_1_method_13_code 51 = .ok (.if_icmp .ge 21, 3) := by decide +kernel
theorem d_Sh_cast_34 : decode prog_1_method_13_code 34 = .ok (.aload_n 3, 1) := by decide +kernel
theorem d_Sh_cast_35 : decode prog_1_method_13_code 35 = .ok (.iload_n 1, 1) := by decide +kernel
theorem d_Sh_cast_36 : decode prog_1_method_13_code 36 = .ok (.iload_n 2, 1) := by decide +kernel
theorem d_Sh_cast_37 : decode prog_1_method_13_code 37 = .ok (.invokevirtual 204, 3) := by decide +kernel
theorem d_Sh_cast_40 : decode prog_1_method_13_code 40 = .ok (.ireturn, 1) := by decide +kernel
theorem d_Sh_cast_31 : decode prog_1_method_13_code 31 = .ok (.if_icmp .ge 10, 3) := by decide +kernel
theorem d_Sh_cast_18 : decode prog_1_method_13_code 18 = .ok (.if_icmp .le 5, 3) := by decide +kernel
theorem d_Sh_cast_12 : decode prog_1_method_13_code 12 = .ok (.ifCond .lt 9, 3) := by decide +kernel
theorem d_Sh_cast_8 : decode prog_1_method_13_code 8 = .ok (.ifCond .eq 13, 3) := by decide +kernel
def B_Sh_cast_l47 (N : Nat) (a1 : Int32) (rec : Int32 → Int32 → Mem → Option (Int32 × Mem)) (x4 : Int32) (x5 : Int32) (σ : Mem) : Option (Int32 × Mem) :=
  if 24 ≤ x5 then
    (some (x4, σ))
  else
    (bnd1 (f_Da_squaresOf N σ a1 x5) fun r60 =>
    letv (x4 + r60) fun v64 =>
    letv (x5 + 1) fun v66 =>
    rec v64 v66 σ)
def L_Sh_cast_l47 (N : Nat) (a1 : Int32) : Nat → Int32 → Int32 → Mem → Option (Int32 × Mem)
  | 0, _, _, _ => none
  | k + 1, x4, x5, σ => B_Sh_cast_l47 N a1 (L_Sh_cast_l47 N a1 k) x4 x5 σ
set_option maxHeartbeats 4000000 in
set_option maxRecDepth 20000 in
theorem cL_Sh_cast_l47 (Z : ZX) {Y : YX} {post : Option Value → Mem → Prop} {N : Nat} {a1 : Int32} {Good : Int32 × Mem → Prop} (hR : ∀ (v : Int32) (σr : Mem), Good (v, σr) → post (some (.int v)) σr) : ∀ (k : Nat) (x4 : Int32) (x5 : Int32) (σ : Mem) (res : Int32 × Mem), L_Sh_cast_l47 N a1 k x4 x5 σ = some res → Good res → V (mkB Z) Y m_Sh_cast 6 (QP (mkB Z) Y nC 0 0 post) 0 0 nC σ 47 [(1, .int a1), (3, rf Z 33), (4, .int x4), (5, .int x5)] [] := by
  intro k
  induction k with
  | zero => intro x4 x5 σ res h; cases h
  | succ k ih =>
    intro x4 x5 σ res h hg
    replace h : B_Sh_cast_l47 N a1 (L_Sh_cast_l47 N a1 k) x4 x5 σ = some res := h
    unfold B_Sh_cast_l47 at h
    refine V.iload d_Sh_cast_47 3 rfl ?_
    refine V.bipush (v := 24) d_Sh_cast_49 (by decide) ?_
    refine V.icmp_ge (tgt := 72) d_Sh_cast_51 (by decide) (fun hc51 => ?_) (fun hc51 => ?_)
    · replace h := ite_t hc51 h
      refine V.iload d_Sh_cast_72 2 rfl ?_
      cases h
      exact V.iret rfl d_Sh_cast_74 (hR _ _ hg)
    · replace h := ite_f hc51 h
      refine V.iload d_Sh_cast_54 2 rfl ?_
      refine V.aload_n d_Sh_cast_56 rfl 1 rfl ?_
      refine V.iload_n d_Sh_cast_57 rfl 0 rfl ?_
      refine V.iload d_Sh_cast_58 3 rfl ?_
      obtain ⟨r60, h1, h⟩ := bnd1_e h
      refine V.vI (as := [.int a1, .int x5]) (st := [.int x4]) (c_Da_squaresOf Z h1) k_Da_squaresOf lk_Sh_204 (by decide) rfl (by decide) ly_33 ok_Da.1 rfl (Nat.le_of_ble_eq_true rfl) d_Sh_cast_60 ?_
      refine V.iadd d_Sh_cast_63 ?_
      obtain ⟨v64, e_v64, h⟩ := letv_e h
      refine V.topI e_v64 ?_
      refine V.istore (lv' := [(4, .int v64), (1, .int a1), (3, rf Z 33), (5, .int x5)]) d_Sh_cast_64 (by decide) rfl ?_
      obtain ⟨v66, e_v66, h⟩ := letv_e h
      refine V.iinc (v := v66) (lv' := [(5, .int v66), (4, .int v64), (1, .int a1), (3, rf Z 33)]) d_Sh_cast_66 3 rfl (by rw [e_v66]; rfl) (by decide) rfl ?_
      refine V.goto (tgt := 47) d_Sh_cast_69 (by decide) ?_
      exact V.pick [2, 3, 1, 0] rfl (ih _ _ _ _ h hg)
def f_Sh_cast (N : Nat) (σ : Mem) (a1 : Int32) (a2 : Int32) : Option (Int32 × Mem) :=
  bnd1 (f_To_isCaster σ a1) fun r5 =>
  if r5 = 0 then
    (some ((-1), σ))
  else
    (if a2 < 0 then
      (some ((-1), σ))
    else
      (if a2 ≤ 24 then
        (bnd1 (f_Sh_today N σ) fun σ24 =>
        if 24 ≤ a2 then
          (L_Sh_cast_l47 N a1 N 0 0 σ24)
        else
          (bnd1 (f_Da_squaresOf N σ24 a1 a2) fun r37 =>
          some (r37, σ24)))
      else
        (some ((-1), σ))))
set_option maxHeartbeats 4000000 in
set_option maxRecDepth 20000 in
theorem c_Sh_cast (Z : ZX) {N : Nat} {σ : Mem} {a1 : Int32} {a2 : Int32} {r : Int32} {σ' : Mem} (h : f_Sh_cast N σ a1 a2 = some (r, σ')) : CI Z 6 m_Sh_cast [rf Z 0, .int a1, .int a2] σ r σ' := by
  refine Ct.of (by decide +kernel) (Nat.le_of_ble_eq_true rfl) (fun Y => ?_)
  show V (mkB Z) Y m_Sh_cast 6 (QP (mkB Z) Y nC 0 0 (fun v t => v = some (.int r) ∧ t = σ')) 0 0 nC σ 0 [(0, rf Z 0), (1, .int a1), (2, .int a2)] []
  unfold f_Sh_cast at h
  refine V.aload_n d_Sh_cast_0 rfl 0 rfl ?_
  refine V.getR (r := 19) ok_Sh fl_Sh_38 (by decide) (by decide) ly_0 rfl d_Sh_cast_1 ?_
  refine V.iload_n d_Sh_cast_4 rfl 1 rfl ?_
  obtain ⟨r5, h1, h⟩ := bnd1_e h
  refine V.vI (as := [.int a1]) (st := []) (c_To_isCaster Z h1) k_To_isCaster lk_Sh_163 (by decide) rfl (by decide) ly_19 ok_To.1 rfl (Nat.le_of_ble_eq_true rfl) d_Sh_cast_5 ?_
  refine V.if_eq (tgt := 21) d_Sh_cast_8 (by decide) (fun hc8 => ?_) (fun hc8 => ?_)
  · replace h := ite_t hc8 h
    refine V.iconst (v := (-1)) d_Sh_cast_21 (by decide) ?_
    cases h
    exact V.iret rfl d_Sh_cast_22 ⟨rfl, rfl⟩
  · replace h := ite_f hc8 h
    refine V.iload_n d_Sh_cast_11 rfl 2 rfl ?_
    refine V.if_lt (tgt := 21) d_Sh_cast_12 (by decide) (fun hc12 => ?_) (fun hc12 => ?_)
    · replace h := ite_t hc12 h
      refine V.iconst (v := (-1)) d_Sh_cast_21 (by decide) ?_
      cases h
      exact V.iret rfl d_Sh_cast_22 ⟨rfl, rfl⟩
    · replace h := ite_f hc12 h
      refine V.iload_n d_Sh_cast_15 rfl 2 rfl ?_
      refine V.bipush (v := 24) d_Sh_cast_16 (by decide) ?_
      refine V.icmp_le (tgt := 23) d_Sh_cast_18 (by decide) (fun hc18 => ?_) (fun hc18 => ?_)
      · replace h := ite_t hc18 h
        refine V.aload_n d_Sh_cast_23 rfl 0 rfl ?_
        obtain ⟨σ24, h1, h⟩ := bnd1_e h
        refine V.vA (as := []) (st := []) (c_Sh_today Z h1) k_Sh_today lk_Sh_181 (by decide) rfl (by decide) ly_0 ok_Sh.1 rfl (Nat.le_of_ble_eq_true rfl) d_Sh_cast_24 ?_
        refine V.astore_n (lv' := [(3, rf Z 33), (0, rf Z 0), (1, .int a1), (2, .int a2)]) d_Sh_cast_27 rfl (by decide) rfl ?_
        refine V.iload_n d_Sh_cast_28 rfl 3 rfl ?_
        refine V.bipush (v := 24) d_Sh_cast_29 (by decide) ?_
        refine V.icmp_ge (tgt := 41) d_Sh_cast_31 (by decide) (fun hc31 => ?_) (fun hc31 => ?_)
        · replace h := ite_t hc31 h
          refine V.iconst (v := 0) d_Sh_cast_41 (by decide) ?_
          refine V.istore (lv' := [(4, .int 0), (3, rf Z 33), (0, rf Z 0), (1, .int a1), (2, .int a2)]) d_Sh_cast_42 (by decide) rfl ?_
          refine V.iconst (v := 0) d_Sh_cast_44 (by decide) ?_
          refine V.istore (lv' := [(5, .int 0), (4, .int 0), (3, rf Z 33), (0, rf Z 0), (1, .int a1), (2, .int a2)]) d_Sh_cast_45 (by decide) rfl ?_
          refine V.pick [4, 2, 1, 0] rfl (cL_Sh_cast_l47 Z (Good := fun z => z = _) (fun r47v r47m he => ?_) N _ _ _ _ h rfl)
          · cases he
            exact ⟨rfl, rfl⟩
        · replace h := ite_f hc31 h
          refine V.aload_n d_Sh_cast_34 rfl 0 rfl ?_
          refine V.iload_n d_Sh_cast_35 rfl 2 rfl ?_
          refine V.iload_n d_Sh_cast_36 rfl 3 rfl ?_
          obtain ⟨r37, h1, h⟩ := bnd1_e h
          refine V.vI (as := [.int a1, .int a2]) (st := []) (c_Da_squaresOf Z h1) k_Da_squaresOf lk_Sh_204 (by decide) rfl (by decide) ly_33 ok_Da.1 rfl (Nat.le_of_ble_eq_true rfl) d_Sh_cast_37 ?_
          cases h
          exact V.iret rfl d_Sh_cast_40 ⟨rfl, rfl⟩
      · replace h := ite_f hc18 h
        refine V.iconst (v := (-1)) d_Sh_cast_21 (by decide) ?_
        cases h
        exact V.iret rfl d_Sh_cast_22 ⟨rfl, rfl⟩
abbrev m_To_standingOf : MI := (⟨"ShadeTown$Town", "standingOf", "(I)I"⟩, prog_9_method_8_code, 4, (Option.some Jvm.ClassFile.FieldType.int))
theorem d_To_standingOf_0 : decode prog_9_method_8_code 0 = .ok (.iconst 0, 1) := by decide +kernel
theorem d_To_standingOf_1 : decode prog_9_method_8_code 1 = .ok (.istore_n 2, 1) := by decide +kernel
theorem d_To_standingOf_2 : decode prog_9_method_8_code 2 = .ok (.iconst 0, 1) := by decide +kernel
theorem d_To_standingOf_3 : decode prog_9_method_8_code 3 = .ok (.istore_n 3, 1) := by decide +kernel
theorem d_To_standingOf_4 : decode prog_9_method_8_code 4 = .ok (.iload_n 3, 1) := by decide +kernel
theorem d_To_standingOf_5 : decode prog_9_method_8_code 5 = .ok (.aload_n 0, 1) := by decide +kernel
theorem d_To_standingOf_6 : decode prog_9_method_8_code 6 = .ok (.getfield 30, 3) := by decide +kernel
theorem d_To_standingOf_42 : decode prog_9_method_8_code 42 = .ok (.iload_n 2, 1) := by decide +kernel
theorem d_To_standingOf_43 : decode prog_9_method_8_code 43 = .ok (.ireturn, 1) := by decide +kernel
theorem d_To_standingOf_12 : decode prog_9_method_8_code 12 = .ok (.aload_n 0, 1) := by decide +kernel
theorem d_To_standingOf_13 : decode prog_9_method_8_code 13 = .ok (.getfield 24, 3) := by decide +kernel
theorem d_To_standingOf_16 : decode prog_9_method_8_code 16 = .ok (.iload_n 3, 1) := by decide +kernel
theorem d_To_standingOf_17 : decode prog_9_method_8_code 17 = .ok (.iaload, 1) := by decide +kernel
theorem d_To_standingOf_18 : decode prog_9_method_8_code 18 = .ok (.iload_n 1, 1) := by decide +kernel
theorem d_To_standingOf_22 : decode prog_9_method_8_code 22 = .ok (.aload_n 0, 1) := by decide +kernel
theorem d_To_standingOf_23 : decode prog_9_method_8_code 23 = .ok (.iload_n 3, 1) := by decide +kernel
theorem d_To_standingOf_24 : decode prog_9_method_8_code 24 = .ok (.invokevirtual 53, 3) := by decide +kernel
theorem d_To_standingOf_30 : decode prog_9_method_8_code 30 = .ok (.iload_n 2, 1) := by decide +kernel
theorem d_To_standingOf_31 : decode prog_9_method_8_code 31 = .ok (.iconst 1, 1) := by decide +kernel
theorem d_To_standingOf_32 : decode prog_9_method_8_code 32 = .ok (.iload_n 3, 1) := by decide +kernel
theorem d_To_standingOf_33 : decode prog_9_method_8_code 33 = .ok (.ishl, 1) := by decide +kernel
theorem d_To_standingOf_34 : decode prog_9_method_8_code 34 = .ok (.ior, 1) := by decide +kernel
theorem d_To_standingOf_35 : decode prog_9_method_8_code 35 = .ok (.istore_n 2, 1) := by decide +kernel
theorem d_To_standingOf_27 : decode prog_9_method_8_code 27 = .ok (.ifCond .eq 9, 3) := by decide +kernel
theorem d_To_standingOf_19 : decode prog_9_method_8_code 19 = .ok (.if_icmp .ne 17, 3) := by decide +kernel
theorem d_To_standingOf_36 : decode prog_9_method_8_code 36 = .ok (.iinc 3 1, 3) := by decide +kernel
theorem d_To_standingOf_39 : decode prog_9_method_8_code 39 = .ok (.goto (-35), 3) := by decide +kernel
theorem d_To_standingOf_9 : decode prog_9_method_8_code 9 = .ok (.if_icmp .ge 33, 3) := by decide +kernel
def B_To_standingOf_l4 (N : Nat) (a1 : Int32) (σ : Mem) (rec : Int32 → Int32 → Option (Int32)) (x2 : Int32) (x3 : Int32) : Option (Int32) :=
  if (mI σ 19 6) ≤ x3 then
    (some x2)
  else
    (grd (inb x3 17) <|
    bnd1 ((
      if (mI σ 24 (x3.toNatClampNeg)) = a1 then
        (bnd1 (f_To_isStanding σ x3) fun r24 =>
        if r24 = 0 then
          (some x2)
        else
          (letv (x2 ||| (1 <<< (x3 &&& 31))) fun v35 =>
          some v35))
      else
        (some x2)) : Option (Int32)) fun y19_2 =>
    letv (x3 + 1) fun v36 =>
    rec y19_2 v36)
def L_To_standingOf_l4 (N : Nat) (a1 : Int32) (σ : Mem) : Nat → Int32 → Int32 → Option (Int32)
  | 0, _, _ => none
  | k + 1, x2, x3 => B_To_standingOf_l4 N a1 σ (L_To_standingOf_l4 N a1 σ k) x2 x3
set_option maxHeartbeats 4000000 in
set_option maxRecDepth 20000 in
theorem cL_To_standingOf_l4 (Z : ZX) {Y : YX} {post : Option Value → Mem → Prop} {N : Nat} {a1 : Int32} {σ : Mem} {Good : Int32 → Prop} (hR : ∀ (v : Int32), Good v → post (some (.int v)) σ) : ∀ (k : Nat) (x2 : Int32) (x3 : Int32) (res : Int32), L_To_standingOf_l4 N a1 σ k x2 x3 = some res → Good res → V (mkB Z) Y m_To_standingOf 2 (QP (mkB Z) Y nC 0 0 post) 0 0 nC σ 4 [(0, rf Z 19), (1, .int a1), (2, .int x2), (3, .int x3)] [] := by
  intro k
  induction k with
  | zero => intro x2 x3 res h; cases h
  | succ k ih =>
    intro x2 x3 res h hg
    replace h : B_To_standingOf_l4 N a1 σ (L_To_standingOf_l4 N a1 σ k) x2 x3 = some res := h
    unfold B_To_standingOf_l4 at h
    refine V.iload_n d_To_standingOf_4 rfl 3 rfl ?_
    refine V.aload_n d_To_standingOf_5 rfl 0 rfl ?_
    refine V.getI ok_To fl_To_30 (by decide) (by decide) ly_19 rfl d_To_standingOf_6 ?_
    refine V.icmp_ge (tgt := 42) d_To_standingOf_9 (by decide) (fun hc9 => ?_) (fun hc9 => ?_)
    · replace h := ite_t hc9 h
      refine V.iload_n d_To_standingOf_42 rfl 2 rfl ?_
      cases h
      exact V.iret rfl d_To_standingOf_43 (hR _ hg)
    · replace h := ite_f hc9 h
      refine V.aload_n d_To_standingOf_12 rfl 0 rfl ?_
      refine V.getR (r := 24) ok_To fl_To_24 (by decide) (by decide) ly_19 rfl d_To_standingOf_13 ?_
      refine V.iload_n d_To_standingOf_16 rfl 3 rfl ?_
      obtain ⟨gq, h⟩ := grd_e h
      refine V.ra (by decide) ly_24 (inb_e gq) rfl d_To_standingOf_17 ?_
      refine V.iload_n d_To_standingOf_18 rfl 1 rfl ?_
      obtain ⟨s19, h1, h⟩ := bnd1_e h
      have J19_36 : ∀ (y19_2 : Int32), s19 = y19_2 → V (mkB Z) Y m_To_standingOf 2 (QP (mkB Z) Y nC 0 0 post) 0 0 nC σ 36 [(0, rf Z 19), (1, .int a1), (2, .int y19_2), (3, .int x3)] [] := by
        intro y19_2 he
        rw [he] at h
        obtain ⟨v36, e_v36, h⟩ := letv_e h
        refine V.iinc (v := v36) (lv' := [(3, .int v36), (0, rf Z 19), (1, .int a1), (2, .int y19_2)]) d_To_standingOf_36 3 rfl (by rw [e_v36]; rfl) (by decide) rfl ?_
        refine V.goto (tgt := 4) d_To_standingOf_39 (by decide) ?_
        exact V.pick [1, 2, 3, 0] rfl (ih _ _ _ h hg)
      replace h := h1
      refine V.icmp_ne (tgt := 36) d_To_standingOf_19 (by decide) (fun hc19 => ?_) (fun hc19 => ?_)
      · replace h := ite_f hc19 h
        exact V.pick [0, 1, 2, 3] rfl (J19_36 _ (Option.some.inj h).symm)
      · replace h := ite_t hc19 h
        refine V.aload_n d_To_standingOf_22 rfl 0 rfl ?_
        refine V.iload_n d_To_standingOf_23 rfl 3 rfl ?_
        obtain ⟨r24, h1, h⟩ := bnd1_e h
        refine V.vI (as := [.int x3]) (st := []) (c_To_isStanding Z h1) k_To_isStanding lk_To_53 (by decide) rfl (by decide) ly_19 ok_To.1 rfl (Nat.le_of_ble_eq_true rfl) d_To_standingOf_24 ?_
        refine V.if_eq (tgt := 36) d_To_standingOf_27 (by decide) (fun hc27 => ?_) (fun hc27 => ?_)
        · replace h := ite_t hc27 h
          exact V.pick [0, 1, 2, 3] rfl (J19_36 _ (Option.some.inj h).symm)
        · replace h := ite_f hc27 h
          refine V.iload_n d_To_standingOf_30 rfl 2 rfl ?_
          refine V.iconst (v := 1) d_To_standingOf_31 (by decide) ?_
          refine V.iload_n d_To_standingOf_32 rfl 3 rfl ?_
          refine V.ishl d_To_standingOf_33 ?_
          refine V.ior d_To_standingOf_34 ?_
          obtain ⟨v35, e_v35, h⟩ := letv_e h
          refine V.topI e_v35 ?_
          refine V.istore_n (lv' := [(2, .int v35), (0, rf Z 19), (1, .int a1), (3, .int x3)]) d_To_standingOf_35 rfl (by decide) rfl ?_
          exact V.pick [1, 2, 0, 3] rfl (J19_36 _ (Option.some.inj h).symm)
def f_To_standingOf (N : Nat) (σ : Mem) (a1 : Int32) : Option (Int32) :=
  L_To_standingOf_l4 N a1 σ N 0 0
set_option maxHeartbeats 4000000 in
set_option maxRecDepth 20000 in
theorem c_To_standingOf (Z : ZX) {N : Nat} {σ : Mem} {a1 : Int32} {r : Int32} (h : f_To_standingOf N σ a1 = some r) : CI Z 2 m_To_standingOf [rf Z 19, .int a1] σ r σ := by
  refine Ct.of (by decide +kernel) (Nat.le_of_ble_eq_true rfl) (fun Y => ?_)
  show V (mkB Z) Y m_To_standingOf 2 (QP (mkB Z) Y nC 0 0 (fun v t => v = some (.int r) ∧ t = σ)) 0 0 nC σ 0 [(0, rf Z 19), (1, .int a1)] []
  unfold f_To_standingOf at h
  refine V.iconst (v := 0) d_To_standingOf_0 (by decide) ?_
  refine V.istore_n (lv' := [(2, .int 0), (0, rf Z 19), (1, .int a1)]) d_To_standingOf_1 rfl (by decide) rfl ?_
  refine V.iconst (v := 0) d_To_standingOf_2 (by decide) ?_
  refine V.istore_n (lv' := [(3, .int 0), (2, .int 0), (0, rf Z 19), (1, .int a1)]) d_To_standingOf_3 rfl (by decide) rfl ?_
  refine V.pick [2, 3, 1, 0] rfl (cL_To_standingOf_l4 Z (Good := fun z => z = _) (fun r4v he => ?_) N _ _ _ h rfl)
  · cases he
    exact ⟨rfl, rfl⟩
abbrev m_Da_partsOf : MI := (⟨"ShadeTown$Day", "partsOf", "(I)J"⟩, prog_3_method_15_code, 7, (Option.some Jvm.ClassFile.FieldType.long))
theorem d_Da_partsOf_0 : decode prog_3_method_15_code 0 = .ok (.lconst 0, 1) := by decide +kernel
theorem d_Da_partsOf_1 : decode prog_3_method_15_code 1 = .ok (.lstore_n 2, 1) := by decide +kernel
theorem d_Da_partsOf_2 : decode prog_3_method_15_code 2 = .ok (.iconst 0, 1) := by decide +kernel
theorem d_Da_partsOf_3 : decode prog_3_method_15_code 3 = .ok (.istore 4, 2) := by decide +kernel
theorem d_Da_partsOf_5 : decode prog_3_method_15_code 5 = .ok (.iload 4, 2) := by decide +kernel
theorem d_Da_partsOf_7 : decode prog_3_method_15_code 7 = .ok (.bipush 24, 2) := by decide +kernel
theorem d_Da_partsOf_74 : decode prog_3_method_15_code 74 = .ok (.lload_n 2, 1) := by decide +kernel
theorem d_Da_partsOf_75 : decode prog_3_method_15_code 75 = .ok (.lreturn, 1) := by decide +kernel
theorem d_Da_partsOf_12 : decode prog_3_method_15_code 12 = .ok (.iconst 0, 1) := by decide +kernel
theorem d_Da_partsOf_13 : decode prog_3_method_15_code 13 = .ok (.istore 5, 2) := by decide +kernel
theorem d_Da_partsOf_15 : decode prog_3_method_15_code 15 = .ok (.iload 5, 2) := by decide +kernel
theorem d_Da_partsOf_17 : decode prog_3_method_15_code 17 = .ok (.sipush 144, 3) := by decide +kernel
theorem d_Da_partsOf_23 : decode prog_3_method_15_code 23 = .ok (.aload_n 0, 1) := by decide +kernel
theorem d_Da_partsOf_24 : decode prog_3_method_15_code 24 = .ok (.iload 4, 2) := by decide +kernel
theorem d_Da_partsOf_26 : decode prog_3_method_15_code 26 = .ok (.iload 5, 2) := by decide +kernel
theorem d_Da_partsOf_28 : decode prog_3_method_15_code 28 = .ok (.invokevirtual 62, 3) := by decide +kernel
theorem d_Da_partsOf_31 : decode prog_3_method_15_code 31 = .ok (.istore 6, 2) := by decide +kernel
theorem d_Da_partsOf_33 : decode prog_3_method_15_code 33 = .ok (.iload 6, 2) := by decide +kernel
theorem d_Da_partsOf_35 : decode prog_3_method_15_code 35 = .ok (.iload_n 1, 1) := by decide +kernel
theorem d_Da_partsOf_36 : decode prog_3_method_15_code 36 = .ok (.iand, 1) := by decide +kernel
theorem d_Da_partsOf_40 : decode prog_3_method_15_code 40 = .ok (.lload_n 2, 1) := by decide +kernel
theorem kl_Da_66 : Cond.constantLong "ShadeTown$Day" 66 (720720) ∈ tblG := atG 903 (by decide +kernel) rfl
theorem d_Da_partsOf_41 : decode prog_3_method_15_code 41 = .ok (.ldc2_w 66, 3) := by decide +kernel
theorem d_Da_partsOf_44 : decode prog_3_method_15_code 44 = .ok (.iload 6, 2) := by decide +kernel
theorem d_Da_partsOf_46 : decode prog_3_method_15_code 46 = .ok (.invokestatic 68, 3) := by decide +kernel
theorem d_Da_partsOf_49 : decode prog_3_method_15_code 49 = .ok (.i2l, 1) := by decide +kernel
theorem d_Da_partsOf_50 : decode prog_3_method_15_code 50 = .ok (.ldiv, 1) := by decide +kernel
theorem d_Da_partsOf_51 : decode prog_3_method_15_code 51 = .ok (.iload 6, 2) := by decide +kernel
theorem d_Da_partsOf_53 : decode prog_3_method_15_code 53 = .ok (.iload_n 1, 1) := by decide +kernel
theorem d_Da_partsOf_54 : decode prog_3_method_15_code 54 = .ok (.iand, 1) := by decide +kernel
theorem d_Da_partsOf_55 : decode prog_3_method_15_code 55 = .ok (.invokestatic 68, 3) := by decide +kernel
theorem d_Da_partsOf_58 : decode prog_3_method_15_code 58 = .ok (.i2l, 1) := by decide +kernel
theorem d_Da_partsOf_59 : decode prog_3_method_15_code 59 = .ok (.lmul, 1) := by decide +kernel
theorem d_Da_partsOf_60 : decode prog_3_method_15_code 60 = .ok (.ladd, 1) := by decide +kernel
theorem d_Da_partsOf_61 : decode prog_3_method_15_code 61 = .ok (.lstore_n 2, 1) := by decide +kernel
theorem d_Da_partsOf_37 : decode prog_3_method_15_code 37 = .ok (.ifCond .eq 25, 3) := by decide +kernel
theorem d_Da_partsOf_62 : decode prog_3_method_15_code 62 = .ok (.iinc 5 1, 3) := by decide +kernel
theorem d_Da_partsOf_65 : decode prog_3_method_15_code 65 = .ok (.goto (-50), 3) := by decide +kernel
theorem d_Da_partsOf_20 : decode prog_3_method_15_code 20 = .ok (.if_icmp .ge 48, 3) := by decide +kernel
theorem d_Da_partsOf_68 : decode prog_3_method_15_code 68 = .ok (.iinc 4 1, 3) := by decide +kernel
theorem d_Da_partsOf_71 : decode prog_3_method_15_code 71 = .ok (.goto (-66), 3) := by decide +kernel
theorem d_Da_partsOf_9 : decode prog_3_method_15_code 9 = .ok (.if_icmp .ge 65, 3) := by decide +kernel
def B_Da_partsOf_l15 (N : Nat) (a1 : Int32) (a4 : Int32) (σ : Mem) (rec : Int64 → Int32 → Option (Int64)) (x2 : Int64) (x5 : Int32) : Option (Int64) :=
  if 144 ≤ x5 then
    (some x2)
  else
    (bnd1 (f_Da_whoCasts σ a4 x5) fun r28 =>
    bnd1 ((
      if (r28 &&& a1) = 0 then
        (some x2)
      else
        (bnd1 (f_JI_bitCount_0f7a4 r28) fun r46 =>
        grd (decide (¬ (r46.toInt64) = 0)) <|
        bnd1 (f_JI_bitCount_0f7a4 (r28 &&& a1)) fun r55 =>
        letv (x2 + ((720720 / (r46.toInt64)) * (r55.toInt64))) fun v61 =>
        some v61)) : Option (Int64)) fun y37_2 =>
    letv (x5 + 1) fun v62 =>
    rec y37_2 v62)
def L_Da_partsOf_l15 (N : Nat) (a1 : Int32) (a4 : Int32) (σ : Mem) : Nat → Int64 → Int32 → Option (Int64)
  | 0, _, _ => none
  | k + 1, x2, x5 => B_Da_partsOf_l15 N a1 a4 σ (L_Da_partsOf_l15 N a1 a4 σ k) x2 x5
set_option maxHeartbeats 4000000 in
set_option maxRecDepth 20000 in
theorem cL_Da_partsOf_l15 (Z : ZX) {Y : YX} {Q : State → Prop} {N : Nat} {a1 : Int32} {a4 : Int32} {σ : Mem} {Good : Int64 → Prop} (hE : ∀ (o2 : Int64), Good o2 → V (mkB Z) Y m_Da_partsOf 2 Q 0 0 nC σ 68 [(0, rf Z 33), (1, .int a1), (2, .long o2), (4, .int a4)] []) : ∀ (k : Nat) (x2 : Int64) (x5 : Int32) (res : Int64), L_Da_partsOf_l15 N a1 a4 σ k x2 x5 = some res → Good res → V (mkB Z) Y m_Da_partsOf 2 Q 0 0 nC σ 15 [(0, rf Z 33), (1, .int a1), (2, .long x2), (4, .int a4), (5, .int x5)] [] := by
  intro k
  induction k with
  | zero => intro x2 x5 res h; cases h
  | succ k ih =>
    intro x2 x5 res h hg
    replace h : B_Da_partsOf_l15 N a1 a4 σ (L_Da_partsOf_l15 N a1 a4 σ k) x2 x5 = some res := h
    unfold B_Da_partsOf_l15 at h
    refine V.iload d_Da_partsOf_15 4 rfl ?_
    refine V.sipush (v := 144) d_Da_partsOf_17 (by decide) ?_
    refine V.icmp_ge (tgt := 68) d_Da_partsOf_20 (by decide) (fun hc20 => ?_) (fun hc20 => ?_)
    · replace h := ite_t hc20 h
      cases h
      exact V.pick [0, 1, 2, 3] rfl (hE _ hg)
    · replace h := ite_f hc20 h
      refine V.aload_n d_Da_partsOf_23 rfl 0 rfl ?_
      refine V.iload d_Da_partsOf_24 3 rfl ?_
      refine V.iload d_Da_partsOf_26 4 rfl ?_
      obtain ⟨r28, h1, h⟩ := bnd1_e h
      refine V.vI (as := [.int a4, .int x5]) (st := []) (c_Da_whoCasts Z h1) k_Da_whoCasts lk_Da_62 (by decide) rfl (by decide) ly_33 ok_Da.1 rfl (Nat.le_of_ble_eq_true rfl) d_Da_partsOf_28 ?_
      refine V.istore (lv' := [(6, .int r28), (0, rf Z 33), (1, .int a1), (2, .long x2), (4, .int a4), (5, .int x5)]) d_Da_partsOf_31 (by decide) rfl ?_
      refine V.iload d_Da_partsOf_33 0 rfl ?_
      refine V.iload_n d_Da_partsOf_35 rfl 2 rfl ?_
      refine V.iand d_Da_partsOf_36 ?_
      obtain ⟨s37, h1, h⟩ := bnd1_e h
      have J37_62 : ∀ (y37_2 : Int64), s37 = y37_2 → V (mkB Z) Y m_Da_partsOf 2 Q 0 0 nC σ 62 [(0, rf Z 33), (1, .int a1), (2, .long y37_2), (4, .int a4), (5, .int x5)] [] := by
        intro y37_2 he
        rw [he] at h
        obtain ⟨v62, e_v62, h⟩ := letv_e h
        refine V.iinc (v := v62) (lv' := [(5, .int v62), (0, rf Z 33), (1, .int a1), (2, .long y37_2), (4, .int a4)]) d_Da_partsOf_62 4 rfl (by rw [e_v62]; rfl) (by decide) rfl ?_
        refine V.goto (tgt := 15) d_Da_partsOf_65 (by decide) ?_
        exact V.pick [1, 2, 3, 4, 0] rfl (ih _ _ _ h hg)
      replace h := h1
      refine V.if_eq (tgt := 62) d_Da_partsOf_37 (by decide) (fun hc37 => ?_) (fun hc37 => ?_)
      · replace h := ite_t hc37 h
        exact V.pick [1, 2, 3, 4, 5] rfl (J37_62 _ (Option.some.inj h).symm)
      · replace h := ite_f hc37 h
        refine V.lload_n d_Da_partsOf_40 rfl 3 rfl ?_
        refine V.ldc2 (v := 720720) kl_Da_66 d_Da_partsOf_41 ?_
        refine V.iload d_Da_partsOf_44 0 rfl ?_
        obtain ⟨r46, h1, h⟩ := bnd1_e h
        refine V.sI (as := [.int r28]) (st := [.long 720720, .long x2]) (c_JI_bitCount_0f7a4 Z h1) k_JI_bitCount_0f7a4 lk_Da_68 (by decide) rfl rfl (Nat.le_of_ble_eq_true rfl) d_Da_partsOf_46 ?_
        refine V.i2l d_Da_partsOf_49 ?_
        obtain ⟨gq, h⟩ := grd_e h
        refine V.ldiv d_Da_partsOf_50 (of_decide_eq_true gq) ?_
        refine V.iload d_Da_partsOf_51 0 rfl ?_
        refine V.iload_n d_Da_partsOf_53 rfl 2 rfl ?_
        refine V.iand d_Da_partsOf_54 ?_
        obtain ⟨r55, h1, h⟩ := bnd1_e h
        refine V.sI (as := [.int (r28 &&& a1)]) (st := [.long (720720 / (r46.toInt64)), .long x2]) (c_JI_bitCount_0f7a4 Z h1) k_JI_bitCount_0f7a4 lk_Da_68 (by decide) rfl rfl (Nat.le_of_ble_eq_true rfl) d_Da_partsOf_55 ?_
        refine V.i2l d_Da_partsOf_58 ?_
        refine V.lmul d_Da_partsOf_59 ?_
        refine V.ladd d_Da_partsOf_60 ?_
        obtain ⟨v61, e_v61, h⟩ := letv_e h
        refine V.topL e_v61 ?_
        refine V.lstore_n (lv' := [(2, .long v61), (6, .int r28), (0, rf Z 33), (1, .int a1), (4, .int a4), (5, .int x5)]) d_Da_partsOf_61 rfl (by decide) rfl ?_
        exact V.pick [2, 3, 0, 4, 5] rfl (J37_62 _ (Option.some.inj h).symm)
def B_Da_partsOf_l5 (N : Nat) (a1 : Int32) (σ : Mem) (rec : Int64 → Int32 → Option (Int64)) (x2 : Int64) (x4 : Int32) : Option (Int64) :=
  if 24 ≤ x4 then
    (some x2)
  else
    (bnd1 (L_Da_partsOf_l15 N a1 x4 σ N x2 0) fun z15_2 =>
    letv (x4 + 1) fun v68 =>
    rec z15_2 v68)
def L_Da_partsOf_l5 (N : Nat) (a1 : Int32) (σ : Mem) : Nat → Int64 → Int32 → Option (Int64)
  | 0, _, _ => none
  | k + 1, x2, x4 => B_Da_partsOf_l5 N a1 σ (L_Da_partsOf_l5 N a1 σ k) x2 x4
set_option maxHeartbeats 4000000 in
set_option maxRecDepth 20000 in
theorem cL_Da_partsOf_l5 (Z : ZX) {Y : YX} {post : Option Value → Mem → Prop} {N : Nat} {a1 : Int32} {σ : Mem} {Good : Int64 → Prop} (hR : ∀ (v : Int64), Good v → post (some (.long v)) σ) : ∀ (k : Nat) (x2 : Int64) (x4 : Int32) (res : Int64), L_Da_partsOf_l5 N a1 σ k x2 x4 = some res → Good res → V (mkB Z) Y m_Da_partsOf 2 (QP (mkB Z) Y nC 0 0 post) 0 0 nC σ 5 [(0, rf Z 33), (1, .int a1), (2, .long x2), (4, .int x4)] [] := by
  intro k
  induction k with
  | zero => intro x2 x4 res h; cases h
  | succ k ih =>
    intro x2 x4 res h hg
    replace h : B_Da_partsOf_l5 N a1 σ (L_Da_partsOf_l5 N a1 σ k) x2 x4 = some res := h
    unfold B_Da_partsOf_l5 at h
    refine V.iload d_Da_partsOf_5 3 rfl ?_
    refine V.bipush (v := 24) d_Da_partsOf_7 (by decide) ?_
    refine V.icmp_ge (tgt := 74) d_Da_partsOf_9 (by decide) (fun hc9 => ?_) (fun hc9 => ?_)
    · replace h := ite_t hc9 h
      refine V.lload_n d_Da_partsOf_74 rfl 2 rfl ?_
      cases h
      exact V.lret rfl d_Da_partsOf_75 (hR _ hg)
    · replace h := ite_f hc9 h
      refine V.iconst (v := 0) d_Da_partsOf_12 (by decide) ?_
      refine V.istore (lv' := [(5, .int 0), (0, rf Z 33), (1, .int a1), (2, .long x2), (4, .int x4)]) d_Da_partsOf_13 (by decide) rfl ?_
      obtain ⟨x15_, h1, h⟩ := bnd1_e h
      refine V.pick [1, 2, 3, 4, 0] rfl (cL_Da_partsOf_l15 Z (Good := fun z => x15_ = z) (fun z15_2 he => ?_) N _ _ _ h1 rfl)
      · rw [he] at h
        obtain ⟨v68, e_v68, h⟩ := letv_e h
        refine V.iinc (v := v68) (lv' := [(4, .int v68), (0, rf Z 33), (1, .int a1), (2, .long z15_2)]) d_Da_partsOf_68 3 rfl (by rw [e_v68]; rfl) (by decide) rfl ?_
        refine V.goto (tgt := 5) d_Da_partsOf_71 (by decide) ?_
        exact V.pick [1, 2, 3, 0] rfl (ih _ _ _ h hg)
def f_Da_partsOf (N : Nat) (σ : Mem) (a1 : Int32) : Option (Int64) :=
  L_Da_partsOf_l5 N a1 σ N 0 0
set_option maxHeartbeats 4000000 in
set_option maxRecDepth 20000 in
theorem c_Da_partsOf (Z : ZX) {N : Nat} {σ : Mem} {a1 : Int32} {r : Int64} (h : f_Da_partsOf N σ a1 = some r) : CJ Z 2 m_Da_partsOf [rf Z 33, .int a1] σ r σ := by
  refine Ct.of (by decide +kernel) (Nat.le_of_ble_eq_true rfl) (fun Y => ?_)
  show V (mkB Z) Y m_Da_partsOf 2 (QP (mkB Z) Y nC 0 0 (fun v t => v = some (.long r) ∧ t = σ)) 0 0 nC σ 0 [(0, rf Z 33), (1, .int a1)] []
  unfold f_Da_partsOf at h
  refine V.lconst (v := 0) d_Da_partsOf_0 (by decide) ?_
  refine V.lstore_n (lv' := [(2, .long 0), (0, rf Z 33), (1, .int a1)]) d_Da_partsOf_1 rfl (by decide) rfl ?_
  refine V.iconst (v := 0) d_Da_partsOf_2 (by decide) ?_
  refine V.istore (lv' := [(4, .int 0), (2, .long 0), (0, rf Z 33), (1, .int a1)]) d_Da_partsOf_3 (by decide) rfl ?_
  refine V.pick [2, 3, 1, 0] rfl (cL_Da_partsOf_l5 Z (Good := fun z => z = _) (fun r5v he => ?_) N _ _ _ h rfl)
  · cases he
    exact ⟨rfl, rfl⟩
abbrev m_Sh_commonDivisor : MI := (⟨"ShadeTown", "commonDivisor", "(JJ)J"⟩, prog_1_method_51_code, 11, (Option.some Jvm.ClassFile.FieldType.long))
theorem d_Sh_commonDivisor_0 : decode prog_1_method_51_code 0 = .ok (.lload_n 0, 1) := by decide +kernel
theorem d_Sh_commonDivisor_1 : decode prog_1_method_51_code 1 = .ok (.lstore 4, 2) := by decide +kernel
theorem d_Sh_commonDivisor_3 : decode prog_1_method_51_code 3 = .ok (.lload_n 2, 1) := by decide +kernel
theorem d_Sh_commonDivisor_4 : decode prog_1_method_51_code 4 = .ok (.lstore 6, 2) := by decide +kernel
theorem d_Sh_commonDivisor_6 : decode prog_1_method_51_code 6 = .ok (.iconst 0, 1) := by decide +kernel
theorem d_Sh_commonDivisor_7 : decode prog_1_method_51_code 7 = .ok (.istore 8, 2) := by decide +kernel
theorem d_Sh_commonDivisor_9 : decode prog_1_method_51_code 9 = .ok (.iload 8, 2) := by decide +kernel
theorem d_Sh_commonDivisor_11 : decode prog_1_method_51_code 11 = .ok (.sipush 200, 3) := by decide +kernel
theorem d_Sh_commonDivisor_17 : decode prog_1_method_51_code 17 = .ok (.lload 6, 2) := by decide +kernel
theorem d_Sh_commonDivisor_19 : decode prog_1_method_51_code 19 = .ok (.lconst 0, 1) := by decide +kernel
theorem d_Sh_commonDivisor_20 : decode prog_1_method_51_code 20 = .ok (.lcmp, 1) := by decide +kernel
theorem d_Sh_commonDivisor_24 : decode prog_1_method_51_code 24 = .ok (.lload 4, 2) := by decide +kernel
theorem d_Sh_commonDivisor_26 : decode prog_1_method_51_code 26 = .ok (.lload 6, 2) := by decide +kernel
theorem d_Sh_commonDivisor_28 : decode prog_1_method_51_code 28 = .ok (.lrem, 1) := by decide +kernel
theorem d_Sh_commonDivisor_29 : decode prog_1_method_51_code 29 = .ok (.lstore 9, 2) := by decide +kernel
theorem d_Sh_commonDivisor_31 : decode prog_1_method_51_code 31 = .ok (.lload 6, 2) := by decide +kernel
theorem d_Sh_commonDivisor_33 : decode prog_1_method_51_code 33 = .ok (.lstore 4, 2) := by decide +kernel
theorem d_Sh_commonDivisor_35 : decode prog_1_method_51_code 35 = .ok (.lload 9, 2) := by decide +kernel
theorem d_Sh_commonDivisor_37 : decode prog_1_method_51_code 37 = .ok (.lstore 6, 2) := by decide +kernel
theorem d_Sh_commonDivisor_39 : decode prog_1_method_51_code 39 = .ok (.iinc 8 1, 3) := by decide +kernel
theorem d_Sh_commonDivisor_42 : decode prog_1_method_51_code 42 = .ok (.goto (-33), 3) := by decide +kernel
theorem d_Sh_commonDivisor_21 : decode prog_1_method_51_code 21 = .ok (.ifCond .eq 24, 3) := by decide +kernel
theorem d_Sh_commonDivisor_14 : decode prog_1_method_51_code 14 = .ok (.if_icmp .ge 31, 3) := by decide +kernel
theorem d_Sh_commonDivisor_45 : decode prog_1_method_51_code 45 = .ok (.lload 4, 2) := by decide +kernel
theorem d_Sh_commonDivisor_47 : decode prog_1_method_51_code 47 = .ok (.lreturn, 1) := by decide +kernel
def B_Sh_commonDivisor_l9 (N : Nat) (rec : Int64 → Int64 → Int32 → Option (Int64)) (x4 : Int64) (x6 : Int64) (x8 : Int32) : Option (Int64) :=
  if 200 ≤ x8 then
    (some x4)
  else
    (if (lg_cmp x6 0) = 0 then
      (some x4)
    else
      (grd (decide (¬ x6 = 0)) <|
      letv (x4 - x4 / x6 * x6) fun v29 =>
      letv (x8 + 1) fun v39 =>
      rec x6 v29 v39))
def L_Sh_commonDivisor_l9 (N : Nat) : Nat → Int64 → Int64 → Int32 → Option (Int64)
  | 0, _, _, _ => none
  | k + 1, x4, x6, x8 => B_Sh_commonDivisor_l9 N (L_Sh_commonDivisor_l9 N k) x4 x6 x8
set_option maxHeartbeats 4000000 in
set_option maxRecDepth 20000 in
theorem cL_Sh_commonDivisor_l9 (Z : ZX) {Y : YX} {Q : State → Prop} {N : Nat} {σ : Mem} {Good : Int64 → Prop} (hE : ∀ (o4 : Int64), Good o4 → V (mkB Z) Y m_Sh_commonDivisor 0 Q 0 0 nC σ 45 [(4, .long o4)] []) : ∀ (k : Nat) (x4 : Int64) (x6 : Int64) (x8 : Int32) (res : Int64), L_Sh_commonDivisor_l9 N k x4 x6 x8 = some res → Good res → V (mkB Z) Y m_Sh_commonDivisor 0 Q 0 0 nC σ 9 [(4, .long x4), (6, .long x6), (8, .int x8)] [] := by
  intro k
  induction k with
  | zero => intro x4 x6 x8 res h; cases h
  | succ k ih =>
    intro x4 x6 x8 res h hg
    replace h : B_Sh_commonDivisor_l9 N (L_Sh_commonDivisor_l9 N k) x4 x6 x8 = some res := h
    unfold B_Sh_commonDivisor_l9 at h
    refine V.iload d_Sh_commonDivisor_9 2 rfl ?_
    refine V.sipush (v := 200) d_Sh_commonDivisor_11 (by decide) ?_
    refine V.icmp_ge (tgt := 45) d_Sh_commonDivisor_14 (by decide) (fun hc14 => ?_) (fun hc14 => ?_)
    · replace h := ite_t hc14 h
      cases h
      exact V.pick [0] rfl (hE _ hg)
    · replace h := ite_f hc14 h
      refine V.lload d_Sh_commonDivisor_17 1 rfl ?_
      refine V.lconst (v := 0) d_Sh_commonDivisor_19 (by decide) ?_
      refine V.lcmp d_Sh_commonDivisor_20 ?_
      refine V.if_eq (tgt := 45) d_Sh_commonDivisor_21 (by decide) (fun hc21 => ?_) (fun hc21 => ?_)
      · replace h := ite_t hc21 h
        cases h
        exact V.pick [0] rfl (hE _ hg)
      · replace h := ite_f hc21 h
        refine V.lload d_Sh_commonDivisor_24 0 rfl ?_
        refine V.lload d_Sh_commonDivisor_26 1 rfl ?_
        obtain ⟨gq, h⟩ := grd_e h
        refine V.lrem d_Sh_commonDivisor_28 (of_decide_eq_true gq) ?_
        obtain ⟨v29, e_v29, h⟩ := letv_e h
        refine V.topL e_v29 ?_
        refine V.lstore (lv' := [(9, .long v29), (4, .long x4), (6, .long x6), (8, .int x8)]) d_Sh_commonDivisor_29 (by decide) rfl ?_
        refine V.lload d_Sh_commonDivisor_31 2 rfl ?_
        refine V.lstore (lv' := [(4, .long x6), (9, .long v29), (6, .long x6), (8, .int x8)]) d_Sh_commonDivisor_33 (by decide) rfl ?_
        refine V.lload d_Sh_commonDivisor_35 1 rfl ?_
        refine V.lstore (lv' := [(6, .long v29), (4, .long x6), (9, .long v29), (8, .int x8)]) d_Sh_commonDivisor_37 (by decide) rfl ?_
        obtain ⟨v39, e_v39, h⟩ := letv_e h
        refine V.iinc (v := v39) (lv' := [(8, .int v39), (6, .long v29), (4, .long x6), (9, .long v29)]) d_Sh_commonDivisor_39 3 rfl (by rw [e_v39]; rfl) (by decide) rfl ?_
        refine V.goto (tgt := 9) d_Sh_commonDivisor_42 (by decide) ?_
        exact V.pick [2, 1, 0] rfl (ih _ _ _ _ h hg)
def f_Sh_commonDivisor (N : Nat) (a0 : Int64) (a2 : Int64) : Option (Int64) :=
  bnd1 (L_Sh_commonDivisor_l9 N N a0 a2 0) fun z9_4 =>
  some z9_4
set_option maxHeartbeats 4000000 in
set_option maxRecDepth 20000 in
theorem c_Sh_commonDivisor (Z : ZX) {N : Nat} {σ : Mem} {a0 : Int64} {a2 : Int64} {r : Int64} (h : f_Sh_commonDivisor N a0 a2 = some r) : CJ Z 0 m_Sh_commonDivisor [.long a0, .long a2] σ r σ := by
  refine Ct.of (by decide +kernel) (Nat.le_of_ble_eq_true rfl) (fun Y => ?_)
  show V (mkB Z) Y m_Sh_commonDivisor 0 (QP (mkB Z) Y nC 0 0 (fun v t => v = some (.long r) ∧ t = σ)) 0 0 nC σ 0 [(0, .long a0), (2, .long a2)] []
  unfold f_Sh_commonDivisor at h
  refine V.lload_n d_Sh_commonDivisor_0 rfl 0 rfl ?_
  refine V.lstore (lv' := [(4, .long a0), (0, .long a0), (2, .long a2)]) d_Sh_commonDivisor_1 (by decide) rfl ?_
  refine V.lload_n d_Sh_commonDivisor_3 rfl 2 rfl ?_
  refine V.lstore (lv' := [(6, .long a2), (4, .long a0), (0, .long a0), (2, .long a2)]) d_Sh_commonDivisor_4 (by decide) rfl ?_
  refine V.iconst (v := 0) d_Sh_commonDivisor_6 (by decide) ?_
  refine V.istore (lv' := [(8, .int 0), (6, .long a2), (4, .long a0), (0, .long a0), (2, .long a2)]) d_Sh_commonDivisor_7 (by decide) rfl ?_
  obtain ⟨x9_, h1, h⟩ := bnd1_e h
  refine V.pick [2, 1, 0] rfl (cL_Sh_commonDivisor_l9 Z (Good := fun z => x9_ = z) (fun z9_4 he => ?_) N _ _ _ _ h1 rfl)
  · rw [he] at h
    refine V.lload d_Sh_commonDivisor_45 0 rfl ?_
    cases h
    exact V.lret rfl d_Sh_commonDivisor_47 ⟨rfl, rfl⟩
abbrev m_Sh_lowest : MI := (⟨"ShadeTown", "lowest", "(JJI)J"⟩, prog_1_method_50_code, 7, (Option.some Jvm.ClassFile.FieldType.long))
theorem d_Sh_lowest_0 : decode prog_1_method_50_code 0 = .ok (.lload_n 0, 1) := by decide +kernel
theorem d_Sh_lowest_1 : decode prog_1_method_50_code 1 = .ok (.lload_n 2, 1) := by decide +kernel
theorem d_Sh_lowest_2 : decode prog_1_method_50_code 2 = .ok (.invokestatic 394, 3) := by decide +kernel
theorem k_Sh_commonDivisor : MOk m_Sh_commonDivisor 2 ∧ Cond.static m_Sh_commonDivisor.1 ∈ tblG := ⟨⟨atG 910 (by decide +kernel) rfl, atG 111 (by decide +kernel) rfl, ⟨by decide, by decide⟩, by decide +kernel, by decide⟩, atG 909 (by decide +kernel) rfl⟩
theorem lk_Sh_394 : Cond.methodLink "ShadeTown" 394 ⟨"ShadeTown", "commonDivisor", "(JJ)J"⟩ ∈ tblG := atG 908 (by decide +kernel) rfl
theorem d_Sh_lowest_5 : decode prog_1_method_50_code 5 = .ok (.lstore 5, 2) := by decide +kernel
theorem d_Sh_lowest_7 : decode prog_1_method_50_code 7 = .ok (.lload 5, 2) := by decide +kernel
theorem d_Sh_lowest_9 : decode prog_1_method_50_code 9 = .ok (.lconst 0, 1) := by decide +kernel
theorem d_Sh_lowest_10 : decode prog_1_method_50_code 10 = .ok (.lcmp, 1) := by decide +kernel
theorem d_Sh_lowest_18 : decode prog_1_method_50_code 18 = .ok (.iload 4, 2) := by decide +kernel
theorem d_Sh_lowest_30 : decode prog_1_method_50_code 30 = .ok (.lload_n 2, 1) := by decide +kernel
theorem d_Sh_lowest_31 : decode prog_1_method_50_code 31 = .ok (.lload 5, 2) := by decide +kernel
theorem d_Sh_lowest_33 : decode prog_1_method_50_code 33 = .ok (.ldiv, 1) := by decide +kernel
theorem d_Sh_lowest_34 : decode prog_1_method_50_code 34 = .ok (.lreturn, 1) := by decide +kernel
theorem d_Sh_lowest_23 : decode prog_1_method_50_code 23 = .ok (.lload_n 0, 1) := by decide +kernel
theorem d_Sh_lowest_24 : decode prog_1_method_50_code 24 = .ok (.lload 5, 2) := by decide +kernel
theorem d_Sh_lowest_26 : decode prog_1_method_50_code 26 = .ok (.ldiv, 1) := by decide +kernel
theorem d_Sh_lowest_27 : decode prog_1_method_50_code 27 = .ok (.goto 7, 3) := by decide +kernel
theorem d_Sh_lowest_20 : decode prog_1_method_50_code 20 = .ok (.ifCond .ne 10, 3) := by decide +kernel
theorem kl_Sh_207 : Cond.constantLong "ShadeTown" 207 ((-1)) ∈ tblG := atG 894 (by decide +kernel) rfl
theorem d_Sh_lowest_14 : decode prog_1_method_50_code 14 = .ok (.ldc2_w 207, 3) := by decide +kernel
theorem d_Sh_lowest_17 : decode prog_1_method_50_code 17 = .ok (.lreturn, 1) := by decide +kernel
theorem d_Sh_lowest_11 : decode prog_1_method_50_code 11 = .ok (.ifCond .ne 7, 3) := by decide +kernel
def f_Sh_lowest (N : Nat) (a0 : Int64) (a2 : Int64) (a4 : Int32) : Option (Int64) :=
  bnd1 (f_Sh_commonDivisor N a0 a2) fun r2 =>
  if (lg_cmp r2 0) = 0 then
    (some (-1))
  else
    (if a4 = 0 then
      (grd (decide (¬ r2 = 0)) <|
      some (a0 / r2))
    else
      (grd (decide (¬ r2 = 0)) <|
      some (a2 / r2)))
set_option maxHeartbeats 4000000 in
set_option maxRecDepth 20000 in
theorem c_Sh_lowest (Z : ZX) {N : Nat} {σ : Mem} {a0 : Int64} {a2 : Int64} {a4 : Int32} {r : Int64} (h : f_Sh_lowest N a0 a2 a4 = some r) : CJ Z 1 m_Sh_lowest [.long a0, .long a2, .int a4] σ r σ := by
  refine Ct.of (by decide +kernel) (Nat.le_of_ble_eq_true rfl) (fun Y => ?_)
  show V (mkB Z) Y m_Sh_lowest 1 (QP (mkB Z) Y nC 0 0 (fun v t => v = some (.long r) ∧ t = σ)) 0 0 nC σ 0 [(0, .long a0), (2, .long a2), (4, .int a4)] []
  unfold f_Sh_lowest at h
  refine V.lload_n d_Sh_lowest_0 rfl 0 rfl ?_
  refine V.lload_n d_Sh_lowest_1 rfl 1 rfl ?_
  obtain ⟨r2, h1, h⟩ := bnd1_e h
  refine V.sJ (as := [.long a0, .long a2]) (st := []) (c_Sh_commonDivisor Z h1) k_Sh_commonDivisor lk_Sh_394 (by decide) rfl rfl (Nat.le_of_ble_eq_true rfl) d_Sh_lowest_2 ?_
  refine V.lstore (lv' := [(5, .long r2), (0, .long a0), (2, .long a2), (4, .int a4)]) d_Sh_lowest_5 (by decide) rfl ?_
  refine V.lload d_Sh_lowest_7 0 rfl ?_
  refine V.lconst (v := 0) d_Sh_lowest_9 (by decide) ?_
  refine V.lcmp d_Sh_lowest_10 ?_
  refine V.if_ne (tgt := 18) d_Sh_lowest_11 (by decide) (fun hc11 => ?_) (fun hc11 => ?_)
  · replace h := ite_f hc11 h
    refine V.iload d_Sh_lowest_18 3 rfl ?_
    refine V.if_ne (tgt := 30) d_Sh_lowest_20 (by decide) (fun hc20 => ?_) (fun hc20 => ?_)
    · replace h := ite_f hc20 h
      refine V.lload_n d_Sh_lowest_30 rfl 2 rfl ?_
      refine V.lload d_Sh_lowest_31 0 rfl ?_
      obtain ⟨gq, h⟩ := grd_e h
      refine V.ldiv d_Sh_lowest_33 (of_decide_eq_true gq) ?_
      cases h
      exact V.lret rfl d_Sh_lowest_34 ⟨rfl, rfl⟩
    · replace h := ite_t hc20 h
      refine V.lload_n d_Sh_lowest_23 rfl 1 rfl ?_
      refine V.lload d_Sh_lowest_24 0 rfl ?_
      obtain ⟨gq, h⟩ := grd_e h
      refine V.ldiv d_Sh_lowest_26 (of_decide_eq_true gq) ?_
      refine V.goto (tgt := 34) d_Sh_lowest_27 (by decide) ?_
      cases h
      exact V.lret rfl d_Sh_lowest_34 ⟨rfl, rfl⟩
  · replace h := ite_t hc11 h
    refine V.ldc2 (v := (-1)) kl_Sh_207 d_Sh_lowest_14 ?_
    cases h
    exact V.lret rfl d_Sh_lowest_17 ⟨rfl, rfl⟩
abbrev m_Sh_led : MI := (⟨"ShadeTown", "led", "(II)J"⟩, prog_1_method_14_code, 5, (Option.some Jvm.ClassFile.FieldType.long))
theorem d_Sh_led_0 : decode prog_1_method_14_code 0 = .ok (.iload_n 1, 1) := by decide +kernel
theorem d_Sh_led_1 : decode prog_1_method_14_code 1 = .ok (.invokestatic 123, 3) := by decide +kernel
theorem d_Sh_led_16 : decode prog_1_method_14_code 16 = .ok (.ldc2_w 207, 3) := by decide +kernel
theorem d_Sh_led_19 : decode prog_1_method_14_code 19 = .ok (.lreturn, 1) := by decide +kernel
theorem d_Sh_led_7 : decode prog_1_method_14_code 7 = .ok (.iload_n 2, 1) := by decide +kernel
theorem d_Sh_led_11 : decode prog_1_method_14_code 11 = .ok (.iload_n 2, 1) := by decide +kernel
theorem d_Sh_led_12 : decode prog_1_method_14_code 12 = .ok (.iconst 1, 1) := by decide +kernel
theorem d_Sh_led_20 : decode prog_1_method_14_code 20 = .ok (.aload_n 0, 1) := by decide +kernel
theorem d_Sh_led_21 : decode prog_1_method_14_code 21 = .ok (.invokevirtual 181, 3) := by decide +kernel
theorem d_Sh_led_24 : decode prog_1_method_14_code 24 = .ok (.aload_n 0, 1) := by decide +kernel
theorem d_Sh_led_25 : decode prog_1_method_14_code 25 = .ok (.getfield 38, 3) := by decide +kernel
theorem d_Sh_led_28 : decode prog_1_method_14_code 28 = .ok (.iload_n 1, 1) := by decide +kernel
theorem d_Sh_led_29 : decode prog_1_method_14_code 29 = .ok (.invokevirtual 209, 3) := by decide +kernel
theorem k_To_standingOf : MOk m_To_standingOf 1 ∧ IOk m_To_standingOf := ⟨⟨atG 898 (by decide +kernel) rfl, atG 115 (by decide +kernel) rfl, ⟨by decide, by decide⟩, by decide +kernel, by decide⟩, atG 896 (by decide +kernel) rfl, atG 897 (by decide +kernel) rfl⟩
theorem lk_Sh_209 : Cond.methodLink "ShadeTown" 209 ⟨"ShadeTown$Town", "standingOf", "(I)I"⟩ ∈ tblG := atG 895 (by decide +kernel) rfl
theorem d_Sh_led_32 : decode prog_1_method_14_code 32 = .ok (.invokevirtual 212, 3) := by decide +kernel
theorem k_Da_partsOf : MOk m_Da_partsOf 1 ∧ IOk m_Da_partsOf := ⟨⟨atG 902 (by decide +kernel) rfl, atG 116 (by decide +kernel) rfl, ⟨by decide, by decide⟩, by decide +kernel, by decide⟩, atG 900 (by decide +kernel) rfl, atG 901 (by decide +kernel) rfl⟩
theorem lk_Sh_212 : Cond.methodLink "ShadeTown" 212 ⟨"ShadeTown$Day", "partsOf", "(I)J"⟩ ∈ tblG := atG 899 (by decide +kernel) rfl
theorem d_Sh_led_35 : decode prog_1_method_14_code 35 = .ok (.lstore_n 3, 1) := by decide +kernel
theorem d_Sh_led_36 : decode prog_1_method_14_code 36 = .ok (.lload_n 3, 1) := by decide +kernel
theorem kl_Sh_216 : Cond.constantLong "ShadeTown" 216 (720720) ∈ tblG := atG 904 (by decide +kernel) rfl
theorem d_Sh_led_37 : decode prog_1_method_14_code 37 = .ok (.ldc2_w 216, 3) := by decide +kernel
theorem d_Sh_led_40 : decode prog_1_method_14_code 40 = .ok (.iload_n 2, 1) := by decide +kernel
theorem d_Sh_led_41 : decode prog_1_method_14_code 41 = .ok (.invokestatic 218, 3) := by decide +kernel
theorem k_Sh_lowest : MOk m_Sh_lowest 3 ∧ Cond.static m_Sh_lowest.1 ∈ tblG := ⟨⟨atG 907 (by decide +kernel) rfl, atG 111 (by decide +kernel) rfl, ⟨by decide, by decide⟩, by decide +kernel, by decide⟩, atG 906 (by decide +kernel) rfl⟩
theorem lk_Sh_218 : Cond.methodLink "ShadeTown" 218 ⟨"ShadeTown", "lowest", "(JJI)J"⟩ ∈ tblG := atG 905 (by decide +kernel) rfl
theorem d_Sh_led_44 : decode prog_1_method_14_code 44 = .ok (.lreturn, 1) := by decide +kernel
theorem d_Sh_led_13 : decode prog_1_method_14_code 13 = .ok (.if_icmp .le 7, 3) := by decide +kernel
theorem d_Sh_led_8 : decode prog_1_method_14_code 8 = .ok (.ifCond .lt 8, 3) := by decide +kernel
theorem d_Sh_led_4 : decode prog_1_method_14_code 4 = .ok (.ifCond .eq 12, 3) := by decide +kernel
def f_Sh_led (N : Nat) (σ : Mem) (a1 : Int32) (a2 : Int32) : Option (Int64 × Mem) :=
  bnd1 (f_Sh_isOwner a1) fun r1 =>
  if r1 = 0 then
    (some ((-1), σ))
  else
    (if a2 < 0 then
      (some ((-1), σ))
    else
      (if a2 ≤ 1 then
        (bnd1 (f_Sh_today N σ) fun σ21 =>
        bnd1 (f_To_standingOf N σ21 a1) fun r29 =>
        bnd1 (f_Da_partsOf N σ21 r29) fun r32 =>
        bnd1 (f_Sh_lowest N r32 720720 a2) fun r41 =>
        some (r41, σ21))
      else
        (some ((-1), σ))))
set_option maxHeartbeats 4000000 in
set_option maxRecDepth 20000 in
theorem c_Sh_led (Z : ZX) {N : Nat} {σ : Mem} {a1 : Int32} {a2 : Int32} {r : Int64} {σ' : Mem} (h : f_Sh_led N σ a1 a2 = some (r, σ')) : CJ Z 6 m_Sh_led [rf Z 0, .int a1, .int a2] σ r σ' := by
  refine Ct.of (by decide +kernel) (Nat.le_of_ble_eq_true rfl) (fun Y => ?_)
  show V (mkB Z) Y m_Sh_led 6 (QP (mkB Z) Y nC 0 0 (fun v t => v = some (.long r) ∧ t = σ')) 0 0 nC σ 0 [(0, rf Z 0), (1, .int a1), (2, .int a2)] []
  unfold f_Sh_led at h
  refine V.iload_n d_Sh_led_0 rfl 1 rfl ?_
  obtain ⟨r1, h1, h⟩ := bnd1_e h
  refine V.sI (as := [.int a1]) (st := []) (c_Sh_isOwner Z h1) k_Sh_isOwner lk_Sh_123 (by decide) rfl rfl (Nat.le_of_ble_eq_true rfl) d_Sh_led_1 ?_
  refine V.if_eq (tgt := 16) d_Sh_led_4 (by decide) (fun hc4 => ?_) (fun hc4 => ?_)
  · replace h := ite_t hc4 h
    refine V.ldc2 (v := (-1)) kl_Sh_207 d_Sh_led_16 ?_
    cases h
    exact V.lret rfl d_Sh_led_19 ⟨rfl, rfl⟩
  · replace h := ite_f hc4 h
    refine V.iload_n d_Sh_led_7 rfl 2 rfl ?_
    refine V.if_lt (tgt := 16) d_Sh_led_8 (by decide) (fun hc8 => ?_) (fun hc8 => ?_)
    · replace h := ite_t hc8 h
      refine V.ldc2 (v := (-1)) kl_Sh_207 d_Sh_led_16 ?_
      cases h
      exact V.lret rfl d_Sh_led_19 ⟨rfl, rfl⟩
    · replace h := ite_f hc8 h
      refine V.iload_n d_Sh_led_11 rfl 2 rfl ?_
      refine V.iconst (v := 1) d_Sh_led_12 (by decide) ?_
      refine V.icmp_le (tgt := 20) d_Sh_led_13 (by decide) (fun hc13 => ?_) (fun hc13 => ?_)
      · replace h := ite_t hc13 h
        refine V.aload_n d_Sh_led_20 rfl 0 rfl ?_
        obtain ⟨σ21, h1, h⟩ := bnd1_e h
        refine V.vA (as := []) (st := []) (c_Sh_today Z h1) k_Sh_today lk_Sh_181 (by decide) rfl (by decide) ly_0 ok_Sh.1 rfl (Nat.le_of_ble_eq_true rfl) d_Sh_led_21 ?_
        refine V.aload_n d_Sh_led_24 rfl 0 rfl ?_
        refine V.getR (r := 19) ok_Sh fl_Sh_38 (by decide) (by decide) ly_0 rfl d_Sh_led_25 ?_
        refine V.iload_n d_Sh_led_28 rfl 1 rfl ?_
        obtain ⟨r29, h1, h⟩ := bnd1_e h
        refine V.vI (as := [.int a1]) (st := [rf Z 33]) (c_To_standingOf Z h1) k_To_standingOf lk_Sh_209 (by decide) rfl (by decide) ly_19 ok_To.1 rfl (Nat.le_of_ble_eq_true rfl) d_Sh_led_29 ?_
        obtain ⟨r32, h1, h⟩ := bnd1_e h
        refine V.vJ (as := [.int r29]) (st := []) (c_Da_partsOf Z h1) k_Da_partsOf lk_Sh_212 (by decide) rfl (by decide) ly_33 ok_Da.1 rfl (Nat.le_of_ble_eq_true rfl) d_Sh_led_32 ?_
        refine V.lstore_n (lv' := [(3, .long r32), (0, rf Z 0), (1, .int a1), (2, .int a2)]) d_Sh_led_35 rfl (by decide) rfl ?_
        refine V.lload_n d_Sh_led_36 rfl 0 rfl ?_
        refine V.ldc2 (v := 720720) kl_Sh_216 d_Sh_led_37 ?_
        refine V.iload_n d_Sh_led_40 rfl 3 rfl ?_
        obtain ⟨r41, h1, h⟩ := bnd1_e h
        refine V.sJ (as := [.long r32, .long 720720, .int a2]) (st := []) (c_Sh_lowest Z h1) k_Sh_lowest lk_Sh_218 (by decide) rfl rfl (Nat.le_of_ble_eq_true rfl) d_Sh_led_41 ?_
        cases h
        exact V.lret rfl d_Sh_led_44 ⟨rfl, rfl⟩
      · replace h := ite_f hc13 h
        refine V.ldc2 (v := (-1)) kl_Sh_207 d_Sh_led_16 ?_
        cases h
        exact V.lret rfl d_Sh_led_19 ⟨rfl, rfl⟩
abbrev m_Da_longestRow : MI := (⟨"ShadeTown$Day", "longestRow", "(I)I"⟩, prog_3_method_16_code, 5, (Option.some Jvm.ClassFile.FieldType.int))
theorem d_Da_longestRow_0 : decode prog_3_method_16_code 0 = .ok (.iconst 0, 1) := by decide +kernel
theorem d_Da_longestRow_1 : decode prog_3_method_16_code 1 = .ok (.istore_n 2, 1) := by decide +kernel
theorem d_Da_longestRow_2 : decode prog_3_method_16_code 2 = .ok (.iconst 0, 1) := by decide +kernel
theorem d_Da_longestRow_3 : decode prog_3_method_16_code 3 = .ok (.istore_n 3, 1) := by decide +kernel
theorem d_Da_longestRow_4 : decode prog_3_method_16_code 4 = .ok (.iconst 0, 1) := by decide +kernel
theorem d_Da_longestRow_5 : decode prog_3_method_16_code 5 = .ok (.istore 4, 2) := by decide +kernel
theorem d_Da_longestRow_7 : decode prog_3_method_16_code 7 = .ok (.iload 4, 2) := by decide +kernel
theorem d_Da_longestRow_9 : decode prog_3_method_16_code 9 = .ok (.bipush 24, 2) := by decide +kernel
theorem d_Da_longestRow_58 : decode prog_3_method_16_code 58 = .ok (.iload_n 2, 1) := by decide +kernel
theorem d_Da_longestRow_59 : decode prog_3_method_16_code 59 = .ok (.ireturn, 1) := by decide +kernel
theorem d_Da_longestRow_14 : decode prog_3_method_16_code 14 = .ok (.aload_n 0, 1) := by decide +kernel
theorem d_Da_longestRow_15 : decode prog_3_method_16_code 15 = .ok (.iload 4, 2) := by decide +kernel
theorem d_Da_longestRow_17 : decode prog_3_method_16_code 17 = .ok (.iload_n 1, 1) := by decide +kernel
theorem d_Da_longestRow_18 : decode prog_3_method_16_code 18 = .ok (.invokevirtual 62, 3) := by decide +kernel
theorem d_Da_longestRow_30 : decode prog_3_method_16_code 30 = .ok (.iconst 0, 1) := by decide +kernel
theorem d_Da_longestRow_24 : decode prog_3_method_16_code 24 = .ok (.iload_n 3, 1) := by decide +kernel
theorem d_Da_longestRow_25 : decode prog_3_method_16_code 25 = .ok (.iconst 1, 1) := by decide +kernel
theorem d_Da_longestRow_26 : decode prog_3_method_16_code 26 = .ok (.iadd, 1) := by decide +kernel
theorem d_Da_longestRow_27 : decode prog_3_method_16_code 27 = .ok (.goto 4, 3) := by decide +kernel
theorem d_Da_longestRow_21 : decode prog_3_method_16_code 21 = .ok (.ifCond .eq 9, 3) := by decide +kernel
theorem d_Da_longestRow_31 : decode prog_3_method_16_code 31 = .ok (.istore_n 3, 1) := by decide +kernel
theorem d_Da_longestRow_32 : decode prog_3_method_16_code 32 = .ok (.iload_n 3, 1) := by decide +kernel
theorem d_Da_longestRow_33 : decode prog_3_method_16_code 33 = .ok (.iload_n 2, 1) := by decide +kernel
theorem d_Da_longestRow_34 : decode prog_3_method_16_code 34 = .ok (.bipush 24, 2) := by decide +kernel
theorem d_Da_longestRow_36 : decode prog_3_method_16_code 36 = .ok (.idiv, 1) := by decide +kernel
theorem d_Da_longestRow_40 : decode prog_3_method_16_code 40 = .ok (.bipush 24, 2) := by decide +kernel
theorem d_Da_longestRow_42 : decode prog_3_method_16_code 42 = .ok (.iload_n 3, 1) := by decide +kernel
theorem d_Da_longestRow_43 : decode prog_3_method_16_code 43 = .ok (.imul, 1) := by decide +kernel
theorem d_Da_longestRow_44 : decode prog_3_method_16_code 44 = .ok (.iload 4, 2) := by decide +kernel
theorem d_Da_longestRow_46 : decode prog_3_method_16_code 46 = .ok (.iadd, 1) := by decide +kernel
theorem d_Da_longestRow_47 : decode prog_3_method_16_code 47 = .ok (.iload_n 3, 1) := by decide +kernel
theorem d_Da_longestRow_48 : decode prog_3_method_16_code 48 = .ok (.isub, 1) := by decide +kernel
theorem d_Da_longestRow_49 : decode prog_3_method_16_code 49 = .ok (.iconst 1, 1) := by decide +kernel
theorem d_Da_longestRow_50 : decode prog_3_method_16_code 50 = .ok (.iadd, 1) := by decide +kernel
theorem d_Da_longestRow_51 : decode prog_3_method_16_code 51 = .ok (.istore_n 2, 1) := by decide +kernel
theorem d_Da_longestRow_37 : decode prog_3_method_16_code 37 = .ok (.if_icmp .le 15, 3) := by decide +kernel
theorem d_Da_longestRow_52 : decode prog_3_method_16_code 52 = .ok (.iinc 4 1, 3) := by decide +kernel
theorem d_Da_longestRow_55 : decode prog_3_method_16_code 55 = .ok (.goto (-48), 3) := by decide +kernel
theorem d_Da_longestRow_11 : decode prog_3_method_16_code 11 = .ok (.if_icmp .ge 47, 3) := by decide +kernel
def B_Da_longestRow_l7 (N : Nat) (a1 : Int32) (σ : Mem) (rec : Int32 → Int32 → Int32 → Option (Int32)) (x2 : Int32) (x3 : Int32) (x4 : Int32) : Option (Int32) :=
  if 24 ≤ x4 then
    (some x2)
  else
    (bnd1 (f_Da_whoCasts σ x4 a1) fun r18 =>
    bnd1 ((
      if r18 = 0 then
        (some 0)
      else
        (some (x3 + 1))) : Option (Int32)) fun y21_s0 =>
    bnd1 ((
      if y21_s0 ≤ (x2 / 24) then
        (some x2)
      else
        (letv ((((24 * y21_s0) + x4) - y21_s0) + 1) fun v51 =>
        some v51)) : Option (Int32)) fun y37_2 =>
    letv (x4 + 1) fun v52 =>
    rec y37_2 y21_s0 v52)
def L_Da_longestRow_l7 (N : Nat) (a1 : Int32) (σ : Mem) : Nat → Int32 → Int32 → Int32 → Option (Int32)
  | 0, _, _, _ => none
  | k + 1, x2, x3, x4 => B_Da_longestRow_l7 N a1 σ (L_Da_longestRow_l7 N a1 σ k) x2 x3 x4
set_option maxHeartbeats 4000000 in
set_option maxRecDepth 20000 in
theorem cL_Da_longestRow_l7 (Z : ZX) {Y : YX} {post : Option Value → Mem → Prop} {N : Nat} {a1 : Int32} {σ : Mem} {Good : Int32 → Prop} (hR : ∀ (v : Int32), Good v → post (some (.int v)) σ) : ∀ (k : Nat) (x2 : Int32) (x3 : Int32) (x4 : Int32) (res : Int32), L_Da_longestRow_l7 N a1 σ k x2 x3 x4 = some res → Good res → V (mkB Z) Y m_Da_longestRow 2 (QP (mkB Z) Y nC 0 0 post) 0 0 nC σ 7 [(0, rf Z 33), (1, .int a1), (2, .int x2), (3, .int x3), (4, .int x4)] [] := by
  intro k
  induction k with
  | zero => intro x2 x3 x4 res h; cases h
  | succ k ih =>
    intro x2 x3 x4 res h hg
    replace h : B_Da_longestRow_l7 N a1 σ (L_Da_longestRow_l7 N a1 σ k) x2 x3 x4 = some res := h
    unfold B_Da_longestRow_l7 at h
    refine V.iload d_Da_longestRow_7 4 rfl ?_
    refine V.bipush (v := 24) d_Da_longestRow_9 (by decide) ?_
    refine V.icmp_ge (tgt := 58) d_Da_longestRow_11 (by decide) (fun hc11 => ?_) (fun hc11 => ?_)
    · replace h := ite_t hc11 h
      refine V.iload_n d_Da_longestRow_58 rfl 2 rfl ?_
      cases h
      exact V.iret rfl d_Da_longestRow_59 (hR _ hg)
    · replace h := ite_f hc11 h
      refine V.aload_n d_Da_longestRow_14 rfl 0 rfl ?_
      refine V.iload d_Da_longestRow_15 4 rfl ?_
      refine V.iload_n d_Da_longestRow_17 rfl 1 rfl ?_
      obtain ⟨r18, h1, h⟩ := bnd1_e h
      refine V.vI (as := [.int x4, .int a1]) (st := []) (c_Da_whoCasts Z h1) k_Da_whoCasts lk_Da_62 (by decide) rfl (by decide) ly_33 ok_Da.1 rfl (Nat.le_of_ble_eq_true rfl) d_Da_longestRow_18 ?_
      obtain ⟨s21, h1, h⟩ := bnd1_e h
      have J21_31 : ∀ (y21_s0 : Int32), s21 = y21_s0 → V (mkB Z) Y m_Da_longestRow 2 (QP (mkB Z) Y nC 0 0 post) 0 0 nC σ 31 [(0, rf Z 33), (1, .int a1), (2, .int x2), (4, .int x4)] [.int y21_s0] := by
        intro y21_s0 he
        rw [he] at h
        refine V.istore_n (lv' := [(3, .int y21_s0), (0, rf Z 33), (1, .int a1), (2, .int x2), (4, .int x4)]) d_Da_longestRow_31 rfl (by decide) rfl ?_
        refine V.iload_n d_Da_longestRow_32 rfl 0 rfl ?_
        refine V.iload_n d_Da_longestRow_33 rfl 3 rfl ?_
        refine V.bipush (v := 24) d_Da_longestRow_34 (by decide) ?_
        refine V.idiv d_Da_longestRow_36 (by decide) ?_
        obtain ⟨s37, h1, h⟩ := bnd1_e h
        have J37_52 : ∀ (y37_2 : Int32), s37 = y37_2 → V (mkB Z) Y m_Da_longestRow 2 (QP (mkB Z) Y nC 0 0 post) 0 0 nC σ 52 [(0, rf Z 33), (1, .int a1), (2, .int y37_2), (3, .int y21_s0), (4, .int x4)] [] := by
          intro y37_2 he
          rw [he] at h
          obtain ⟨v52, e_v52, h⟩ := letv_e h
          refine V.iinc (v := v52) (lv' := [(4, .int v52), (0, rf Z 33), (1, .int a1), (2, .int y37_2), (3, .int y21_s0)]) d_Da_longestRow_52 4 rfl (by rw [e_v52]; rfl) (by decide) rfl ?_
          refine V.goto (tgt := 7) d_Da_longestRow_55 (by decide) ?_
          exact V.pick [1, 2, 3, 4, 0] rfl (ih _ _ _ _ h hg)
        replace h := h1
        refine V.icmp_le (tgt := 52) d_Da_longestRow_37 (by decide) (fun hc37 => ?_) (fun hc37 => ?_)
        · replace h := ite_t hc37 h
          exact V.pick [1, 2, 3, 0, 4] rfl (J37_52 _ (Option.some.inj h).symm)
        · replace h := ite_f hc37 h
          refine V.bipush (v := 24) d_Da_longestRow_40 (by decide) ?_
          refine V.iload_n d_Da_longestRow_42 rfl 0 rfl ?_
          refine V.imul d_Da_longestRow_43 ?_
          refine V.iload d_Da_longestRow_44 4 rfl ?_
          refine V.iadd d_Da_longestRow_46 ?_
          refine V.iload_n d_Da_longestRow_47 rfl 0 rfl ?_
          refine V.isub d_Da_longestRow_48 ?_
          refine V.iconst (v := 1) d_Da_longestRow_49 (by decide) ?_
          refine V.iadd d_Da_longestRow_50 ?_
          obtain ⟨v51, e_v51, h⟩ := letv_e h
          refine V.topI e_v51 ?_
          refine V.istore_n (lv' := [(2, .int v51), (3, .int y21_s0), (0, rf Z 33), (1, .int a1), (4, .int x4)]) d_Da_longestRow_51 rfl (by decide) rfl ?_
          exact V.pick [2, 3, 0, 1, 4] rfl (J37_52 _ (Option.some.inj h).symm)
      replace h := h1
      refine V.if_eq (tgt := 30) d_Da_longestRow_21 (by decide) (fun hc21 => ?_) (fun hc21 => ?_)
      · replace h := ite_t hc21 h
        refine V.iconst (v := 0) d_Da_longestRow_30 (by decide) ?_
        exact V.pick [0, 1, 2, 4] rfl (J21_31 _ (Option.some.inj h).symm)
      · replace h := ite_f hc21 h
        refine V.iload_n d_Da_longestRow_24 rfl 3 rfl ?_
        refine V.iconst (v := 1) d_Da_longestRow_25 (by decide) ?_
        refine V.iadd d_Da_longestRow_26 ?_
        refine V.goto (tgt := 31) d_Da_longestRow_27 (by decide) ?_
        exact V.pick [0, 1, 2, 4] rfl (J21_31 _ (Option.some.inj h).symm)
def f_Da_longestRow (N : Nat) (σ : Mem) (a1 : Int32) : Option (Int32) :=
  L_Da_longestRow_l7 N a1 σ N 0 0 0
set_option maxHeartbeats 4000000 in
set_option maxRecDepth 20000 in
theorem c_Da_longestRow (Z : ZX) {N : Nat} {σ : Mem} {a1 : Int32} {r : Int32} (h : f_Da_longestRow N σ a1 = some r) : CI Z 2 m_Da_longestRow [rf Z 33, .int a1] σ r σ := by
  refine Ct.of (by decide +kernel) (Nat.le_of_ble_eq_true rfl) (fun Y => ?_)
  show V (mkB Z) Y m_Da_longestRow 2 (QP (mkB Z) Y nC 0 0 (fun v t => v = some (.int r) ∧ t = σ)) 0 0 nC σ 0 [(0, rf Z 33), (1, .int a1)] []
  unfold f_Da_longestRow at h
  refine V.iconst (v := 0) d_Da_longestRow_0 (by decide) ?_
  refine V.istore_n (lv' := [(2, .int 0), (0, rf Z 33), (1, .int a1)]) d_Da_longestRow_1 rfl (by decide) rfl ?_
  refine V.iconst (v := 0) d_Da_longestRow_2 (by decide) ?_
  refine V.istore_n (lv' := [(3, .int 0), (2, .int 0), (0, rf Z 33), (1, .int a1)]) d_Da_longestRow_3 rfl (by decide) rfl ?_
  refine V.iconst (v := 0) d_Da_longestRow_4 (by decide) ?_
  refine V.istore (lv' := [(4, .int 0), (3, .int 0), (2, .int 0), (0, rf Z 33), (1, .int a1)]) d_Da_longestRow_5 (by decide) rfl ?_
  refine V.pick [3, 4, 2, 1, 0] rfl (cL_Da_longestRow_l7 Z (Good := fun z => z = _) (fun r7v he => ?_) N _ _ _ _ h rfl)
  · cases he
    exact ⟨rfl, rfl⟩
abbrev m_Sh_longest : MI := (⟨"ShadeTown", "longest", "(III)I"⟩, prog_1_method_15_code, 5, (Option.some Jvm.ClassFile.FieldType.int))
theorem d_Sh_longest_0 : decode prog_1_method_15_code 0 = .ok (.iload_n 1, 1) := by decide +kernel
theorem d_Sh_longest_1 : decode prog_1_method_15_code 1 = .ok (.iload_n 2, 1) := by decide +kernel
theorem d_Sh_longest_2 : decode prog_1_method_15_code 2 = .ok (.invokestatic 119, 3) := by decide +kernel
theorem d_Sh_longest_17 : decode prog_1_method_15_code 17 = .ok (.iconst (-1), 1) := by decide +kernel
theorem d_Sh_longest_18 : decode prog_1_method_15_code 18 = .ok (.ireturn, 1) := by decide +kernel
theorem d_Sh_longest_8 : decode prog_1_method_15_code 8 = .ok (.iload_n 3, 1) := by decide +kernel
theorem d_Sh_longest_12 : decode prog_1_method_15_code 12 = .ok (.iload_n 3, 1) := by decide +kernel
theorem d_Sh_longest_13 : decode prog_1_method_15_code 13 = .ok (.iconst 1, 1) := by decide +kernel
theorem d_Sh_longest_19 : decode prog_1_method_15_code 19 = .ok (.aload_n 0, 1) := by decide +kernel
theorem d_Sh_longest_20 : decode prog_1_method_15_code 20 = .ok (.invokevirtual 181, 3) := by decide +kernel
theorem d_Sh_longest_23 : decode prog_1_method_15_code 23 = .ok (.bipush 12, 2) := by decide +kernel
theorem d_Sh_longest_25 : decode prog_1_method_15_code 25 = .ok (.iload_n 2, 1) := by decide +kernel
theorem d_Sh_longest_26 : decode prog_1_method_15_code 26 = .ok (.imul, 1) := by decide +kernel
theorem d_Sh_longest_27 : decode prog_1_method_15_code 27 = .ok (.iload_n 1, 1) := by decide +kernel
theorem d_Sh_longest_28 : decode prog_1_method_15_code 28 = .ok (.iadd, 1) := by decide +kernel
theorem d_Sh_longest_29 : decode prog_1_method_15_code 29 = .ok (.invokevirtual 222, 3) := by decide +kernel
theorem k_Da_longestRow : MOk m_Da_longestRow 1 ∧ IOk m_Da_longestRow := ⟨⟨atG 918 (by decide +kernel) rfl, atG 116 (by decide +kernel) rfl, ⟨by decide, by decide⟩, by decide +kernel, by decide⟩, atG 916 (by decide +kernel) rfl, atG 917 (by decide +kernel) rfl⟩
theorem lk_Sh_222 : Cond.methodLink "ShadeTown" 222 ⟨"ShadeTown$Day", "longestRow", "(I)I"⟩ ∈ tblG := atG 915 (by decide +kernel) rfl
theorem d_Sh_longest_32 : decode prog_1_method_15_code 32 = .ok (.istore 4, 2) := by decide +kernel
theorem d_Sh_longest_34 : decode prog_1_method_15_code 34 = .ok (.iload_n 3, 1) := by decide +kernel
theorem d_Sh_longest_44 : decode prog_1_method_15_code 44 = .ok (.iload 4, 2) := by decide +kernel
theorem d_Sh_longest_54 : decode prog_1_method_15_code 54 = .ok (.iload 4, 2) := by decide +kernel
theorem d_Sh_longest_56 : decode prog_1_method_15_code 56 = .ok (.bipush 24, 2) := by decide +kernel
theorem d_Sh_longest_58 : decode prog_1_method_15_code 58 = .ok (.irem, 1) := by decide +kernel
theorem d_Sh_longest_59 : decode prog_1_method_15_code 59 = .ok (.ireturn, 1) := by decide +kernel
theorem d_Sh_longest_49 : decode prog_1_method_15_code 49 = .ok (.bipush (-2), 2) := by decide +kernel
theorem d_Sh_longest_51 : decode prog_1_method_15_code 51 = .ok (.goto 8, 3) := by decide +kernel
theorem d_Sh_longest_46 : decode prog_1_method_15_code 46 = .ok (.ifCond .ne 8, 3) := by decide +kernel
theorem d_Sh_longest_38 : decode prog_1_method_15_code 38 = .ok (.iload 4, 2) := by decide +kernel
theorem d_Sh_longest_40 : decode prog_1_method_15_code 40 = .ok (.bipush 24, 2) := by decide +kernel
theorem d_Sh_longest_42 : decode prog_1_method_15_code 42 = .ok (.idiv, 1) := by decide +kernel
theorem d_Sh_longest_43 : decode prog_1_method_15_code 43 = .ok (.ireturn, 1) := by decide +kernel
theorem d_Sh_longest_35 : decode prog_1_method_15_code 35 = .ok (.ifCond .ne 9, 3) := by decide +kernel
theorem d_Sh_longest_14 : decode prog_1_method_15_code 14 = .ok (.if_icmp .le 5, 3) := by decide +kernel
theorem d_Sh_longest_9 : decode prog_1_method_15_code 9 = .ok (.ifCond .lt 8, 3) := by decide +kernel
theorem d_Sh_longest_5 : decode prog_1_method_15_code 5 = .ok (.ifCond .eq 12, 3) := by decide +kernel
def f_Sh_longest (N : Nat) (σ : Mem) (a1 : Int32) (a2 : Int32) (a3 : Int32) : Option (Int32 × Mem) :=
  bnd1 (f_Sh_inTown a1 a2) fun r2 =>
  if r2 = 0 then
    (some ((-1), σ))
  else
    (if a3 < 0 then
      (some ((-1), σ))
    else
      (if a3 ≤ 1 then
        (bnd1 (f_Sh_today N σ) fun σ20 =>
        bnd1 (f_Da_longestRow N σ20 ((12 * a2) + a1)) fun r29 =>
        if a3 = 0 then
          (some (r29 / 24, σ20))
        else
          (if r29 = 0 then
            (some ((-2), σ20))
          else
            (some (r29 - r29 / 24 * 24, σ20))))
      else
        (some ((-1), σ))))
set_option maxHeartbeats 4000000 in
set_option maxRecDepth 20000 in
theorem c_Sh_longest (Z : ZX) {N : Nat} {σ : Mem} {a1 : Int32} {a2 : Int32} {a3 : Int32} {r : Int32} {σ' : Mem} (h : f_Sh_longest N σ a1 a2 a3 = some (r, σ')) : CI Z 6 m_Sh_longest [rf Z 0, .int a1, .int a2, .int a3] σ r σ' := by
  refine Ct.of (by decide +kernel) (Nat.le_of_ble_eq_true rfl) (fun Y => ?_)
  show V (mkB Z) Y m_Sh_longest 6 (QP (mkB Z) Y nC 0 0 (fun v t => v = some (.int r) ∧ t = σ')) 0 0 nC σ 0 [(0, rf Z 0), (1, .int a1), (2, .int a2), (3, .int a3)] []
  unfold f_Sh_longest at h
  refine V.iload_n d_Sh_longest_0 rfl 1 rfl ?_
  refine V.iload_n d_Sh_longest_1 rfl 2 rfl ?_
  obtain ⟨r2, h1, h⟩ := bnd1_e h
  refine V.sI (as := [.int a1, .int a2]) (st := []) (c_Sh_inTown Z h1) k_Sh_inTown lk_Sh_119 (by decide) rfl rfl (Nat.le_of_ble_eq_true rfl) d_Sh_longest_2 ?_
  refine V.if_eq (tgt := 17) d_Sh_longest_5 (by decide) (fun hc5 => ?_) (fun hc5 => ?_)
  · replace h := ite_t hc5 h
    refine V.iconst (v := (-1)) d_Sh_longest_17 (by decide) ?_
    cases h
    exact V.iret rfl d_Sh_longest_18 ⟨rfl, rfl⟩
  · replace h := ite_f hc5 h
    refine V.iload_n d_Sh_longest_8 rfl 3 rfl ?_
    refine V.if_lt (tgt := 17) d_Sh_longest_9 (by decide) (fun hc9 => ?_) (fun hc9 => ?_)
    · replace h := ite_t hc9 h
      refine V.iconst (v := (-1)) d_Sh_longest_17 (by decide) ?_
      cases h
      exact V.iret rfl d_Sh_longest_18 ⟨rfl, rfl⟩
    · replace h := ite_f hc9 h
      refine V.iload_n d_Sh_longest_12 rfl 3 rfl ?_
      refine V.iconst (v := 1) d_Sh_longest_13 (by decide) ?_
      refine V.icmp_le (tgt := 19) d_Sh_longest_14 (by decide) (fun hc14 => ?_) (fun hc14 => ?_)
      · replace h := ite_t hc14 h
        refine V.aload_n d_Sh_longest_19 rfl 0 rfl ?_
        obtain ⟨σ20, h1, h⟩ := bnd1_e h
        refine V.vA (as := []) (st := []) (c_Sh_today Z h1) k_Sh_today lk_Sh_181 (by decide) rfl (by decide) ly_0 ok_Sh.1 rfl (Nat.le_of_ble_eq_true rfl) d_Sh_longest_20 ?_
        refine V.bipush (v := 12) d_Sh_longest_23 (by decide) ?_
        refine V.iload_n d_Sh_longest_25 rfl 2 rfl ?_
        refine V.imul d_Sh_longest_26 ?_
        refine V.iload_n d_Sh_longest_27 rfl 1 rfl ?_
        refine V.iadd d_Sh_longest_28 ?_
        obtain ⟨r29, h1, h⟩ := bnd1_e h
        refine V.vI (as := [.int ((12 * a2) + a1)]) (st := []) (c_Da_longestRow Z h1) k_Da_longestRow lk_Sh_222 (by decide) rfl (by decide) ly_33 ok_Da.1 rfl (Nat.le_of_ble_eq_true rfl) d_Sh_longest_29 ?_
        refine V.istore (lv' := [(4, .int r29), (0, rf Z 0), (1, .int a1), (2, .int a2), (3, .int a3)]) d_Sh_longest_32 (by decide) rfl ?_
        refine V.iload_n d_Sh_longest_34 rfl 4 rfl ?_
        refine V.if_ne (tgt := 44) d_Sh_longest_35 (by decide) (fun hc35 => ?_) (fun hc35 => ?_)
        · replace h := ite_f hc35 h
          refine V.iload d_Sh_longest_44 0 rfl ?_
          refine V.if_ne (tgt := 54) d_Sh_longest_46 (by decide) (fun hc46 => ?_) (fun hc46 => ?_)
          · replace h := ite_f hc46 h
            refine V.iload d_Sh_longest_54 0 rfl ?_
            refine V.bipush (v := 24) d_Sh_longest_56 (by decide) ?_
            refine V.irem d_Sh_longest_58 (by decide) ?_
            cases h
            exact V.iret rfl d_Sh_longest_59 ⟨rfl, rfl⟩
          · replace h := ite_t hc46 h
            refine V.bipush (v := (-2)) d_Sh_longest_49 (by decide) ?_
            refine V.goto (tgt := 59) d_Sh_longest_51 (by decide) ?_
            cases h
            exact V.iret rfl d_Sh_longest_59 ⟨rfl, rfl⟩
        · replace h := ite_t hc35 h
          refine V.iload d_Sh_longest_38 0 rfl ?_
          refine V.bipush (v := 24) d_Sh_longest_40 (by decide) ?_
          refine V.idiv d_Sh_longest_42 (by decide) ?_
          cases h
          exact V.iret rfl d_Sh_longest_43 ⟨rfl, rfl⟩
      · replace h := ite_f hc14 h
        refine V.iconst (v := (-1)) d_Sh_longest_17 (by decide) ?_
        cases h
        exact V.iret rfl d_Sh_longest_18 ⟨rfl, rfl⟩
abbrev m_Sh_donkey : MI := (⟨"ShadeTown", "donkey", "(I)I"⟩, prog_1_method_16_code, 7, (Option.some Jvm.ClassFile.FieldType.int))
theorem d_Sh_donkey_0 : decode prog_1_method_16_code 0 = .ok (.iload_n 1, 1) := by decide +kernel
theorem d_Sh_donkey_9 : decode prog_1_method_16_code 9 = .ok (.iconst (-1), 1) := by decide +kernel
theorem d_Sh_donkey_10 : decode prog_1_method_16_code 10 = .ok (.ireturn, 1) := by decide +kernel
theorem d_Sh_donkey_4 : decode prog_1_method_16_code 4 = .ok (.iload_n 1, 1) := by decide +kernel
theorem d_Sh_donkey_5 : decode prog_1_method_16_code 5 = .ok (.iconst 1, 1) := by decide +kernel
theorem d_Sh_donkey_11 : decode prog_1_method_16_code 11 = .ok (.aload_n 0, 1) := by decide +kernel
theorem d_Sh_donkey_12 : decode prog_1_method_16_code 12 = .ok (.invokevirtual 181, 3) := by decide +kernel
theorem d_Sh_donkey_15 : decode prog_1_method_16_code 15 = .ok (.astore_n 2, 1) := by decide +kernel
theorem d_Sh_donkey_16 : decode prog_1_method_16_code 16 = .ok (.bipush (-2), 2) := by decide +kernel
theorem d_Sh_donkey_18 : decode prog_1_method_16_code 18 = .ok (.istore_n 3, 1) := by decide +kernel
theorem d_Sh_donkey_19 : decode prog_1_method_16_code 19 = .ok (.bipush (-2), 2) := by decide +kernel
theorem d_Sh_donkey_21 : decode prog_1_method_16_code 21 = .ok (.istore 4, 2) := by decide +kernel
theorem d_Sh_donkey_23 : decode prog_1_method_16_code 23 = .ok (.bipush 12, 2) := by decide +kernel
theorem d_Sh_donkey_25 : decode prog_1_method_16_code 25 = .ok (.istore 5, 2) := by decide +kernel
theorem d_Sh_donkey_27 : decode prog_1_method_16_code 27 = .ok (.iload 5, 2) := by decide +kernel
theorem d_Sh_donkey_29 : decode prog_1_method_16_code 29 = .ok (.sipush 144, 3) := by decide +kernel
theorem d_Sh_donkey_35 : decode prog_1_method_16_code 35 = .ok (.aload_n 2, 1) := by decide +kernel
theorem d_Sh_donkey_36 : decode prog_1_method_16_code 36 = .ok (.iload 5, 2) := by decide +kernel
theorem d_Sh_donkey_38 : decode prog_1_method_16_code 38 = .ok (.invokevirtual 225, 3) := by decide +kernel
theorem d_Sh_donkey_44 : decode prog_1_method_16_code 44 = .ok (.aload_n 0, 1) := by decide +kernel
theorem d_Sh_donkey_45 : decode prog_1_method_16_code 45 = .ok (.getfield 38, 3) := by decide +kernel
theorem d_Sh_donkey_48 : decode prog_1_method_16_code 48 = .ok (.iload 5, 2) := by decide +kernel
theorem d_Sh_donkey_50 : decode prog_1_method_16_code 50 = .ok (.bipush 12, 2) := by decide +kernel
theorem d_Sh_donkey_52 : decode prog_1_method_16_code 52 = .ok (.isub, 1) := by decide +kernel
theorem d_Sh_donkey_53 : decode prog_1_method_16_code 53 = .ok (.invokevirtual 130, 3) := by decide +kernel
theorem d_Sh_donkey_56 : decode prog_1_method_16_code 56 = .ok (.iconst (-1), 1) := by decide +kernel
theorem d_Sh_donkey_60 : decode prog_1_method_16_code 60 = .ok (.aload_n 2, 1) := by decide +kernel
theorem d_Sh_donkey_61 : decode prog_1_method_16_code 61 = .ok (.iload 5, 2) := by decide +kernel
theorem d_Sh_donkey_63 : decode prog_1_method_16_code 63 = .ok (.invokevirtual 222, 3) := by decide +kernel
theorem d_Sh_donkey_66 : decode prog_1_method_16_code 66 = .ok (.bipush 24, 2) := by decide +kernel
theorem d_Sh_donkey_68 : decode prog_1_method_16_code 68 = .ok (.idiv, 1) := by decide +kernel
theorem d_Sh_donkey_69 : decode prog_1_method_16_code 69 = .ok (.istore 6, 2) := by decide +kernel
theorem d_Sh_donkey_71 : decode prog_1_method_16_code 71 = .ok (.iload 6, 2) := by decide +kernel
theorem d_Sh_donkey_73 : decode prog_1_method_16_code 73 = .ok (.iload 4, 2) := by decide +kernel
theorem d_Sh_donkey_78 : decode prog_1_method_16_code 78 = .ok (.iload 6, 2) := by decide +kernel
theorem d_Sh_donkey_80 : decode prog_1_method_16_code 80 = .ok (.istore 4, 2) := by decide +kernel
theorem d_Sh_donkey_82 : decode prog_1_method_16_code 82 = .ok (.iload 5, 2) := by decide +kernel
theorem d_Sh_donkey_84 : decode prog_1_method_16_code 84 = .ok (.istore_n 3, 1) := by decide +kernel
theorem d_Sh_donkey_75 : decode prog_1_method_16_code 75 = .ok (.if_icmp .le 10, 3) := by decide +kernel
theorem d_Sh_donkey_57 : decode prog_1_method_16_code 57 = .ok (.if_icmp .eq 28, 3) := by decide +kernel
theorem d_Sh_donkey_41 : decode prog_1_method_16_code 41 = .ok (.ifCond .eq 44, 3) := by decide +kernel
theorem d_Sh_donkey_85 : decode prog_1_method_16_code 85 = .ok (.iinc 5 1, 3) := by decide +kernel
theorem d_Sh_donkey_88 : decode prog_1_method_16_code 88 = .ok (.goto (-61), 3) := by decide +kernel
theorem d_Sh_donkey_32 : decode prog_1_method_16_code 32 = .ok (.if_icmp .ge 59, 3) := by decide +kernel
theorem d_Sh_donkey_91 : decode prog_1_method_16_code 91 = .ok (.iload_n 1, 1) := by decide +kernel
theorem d_Sh_donkey_99 : decode prog_1_method_16_code 99 = .ok (.iload 4, 2) := by decide +kernel
theorem d_Sh_donkey_101 : decode prog_1_method_16_code 101 = .ok (.ireturn, 1) := by decide +kernel
theorem d_Sh_donkey_95 : decode prog_1_method_16_code 95 = .ok (.iload_n 3, 1) := by decide +kernel
theorem d_Sh_donkey_96 : decode prog_1_method_16_code 96 = .ok (.goto 5, 3) := by decide +kernel
theorem d_Sh_donkey_92 : decode prog_1_method_16_code 92 = .ok (.ifCond .ne 7, 3) := by decide +kernel
theorem d_Sh_donkey_6 : decode prog_1_method_16_code 6 = .ok (.if_icmp .le 5, 3) := by decide +kernel
theorem d_Sh_donkey_1 : decode prog_1_method_16_code 1 = .ok (.ifCond .lt 8, 3) := by decide +kernel
def B_Sh_donkey_l27 (N : Nat) (a1 : Int32) (σ : Mem) (rec : Int32 → Int32 → Int32 → Option (Int32 × Int32)) (x3 : Int32) (x4 : Int32) (x5 : Int32) : Option (Int32 × Int32) :=
  if 144 ≤ x5 then
    (some (x3, x4))
  else
    (bnd1 (f_Da_isFree σ x5) fun r38 =>
    bnd1 ((
      if r38 = 0 then
        (some (x3, x4))
      else
        (bnd1 (f_To_houseOn N σ (x5 - 12)) fun r53 =>
        if r53 = (-1) then
          (some (x3, x4))
        else
          (bnd1 (f_Da_longestRow N σ x5) fun r63 =>
          letv (r63 / 24) fun v69 =>
          if v69 ≤ x4 then
            (some (x3, x4))
          else
            (some (x5, v69))))) : Option (Int32 × Int32)) fun s41 =>
    q2 s41 fun y41_3 y41_4 =>
    letv (x5 + 1) fun v85 =>
    rec y41_3 y41_4 v85)
def L_Sh_donkey_l27 (N : Nat) (a1 : Int32) (σ : Mem) : Nat → Int32 → Int32 → Int32 → Option (Int32 × Int32)
  | 0, _, _, _ => none
  | k + 1, x3, x4, x5 => B_Sh_donkey_l27 N a1 σ (L_Sh_donkey_l27 N a1 σ k) x3 x4 x5
set_option maxHeartbeats 4000000 in
set_option maxRecDepth 20000 in
theorem cL_Sh_donkey_l27 (Z : ZX) {Y : YX} {Q : State → Prop} {N : Nat} {a1 : Int32} {σ : Mem} {Good : Int32 × Int32 → Prop} (hE : ∀ (o3 : Int32) (o4 : Int32), Good (o3, o4) → V (mkB Z) Y m_Sh_donkey 6 Q 0 0 nC σ 91 [(1, .int a1), (3, .int o3), (4, .int o4)] []) : ∀ (k : Nat) (x3 : Int32) (x4 : Int32) (x5 : Int32) (res : Int32 × Int32), L_Sh_donkey_l27 N a1 σ k x3 x4 x5 = some res → Good res → V (mkB Z) Y m_Sh_donkey 6 Q 0 0 nC σ 27 [(0, rf Z 0), (1, .int a1), (2, rf Z 33), (3, .int x3), (4, .int x4), (5, .int x5)] [] := by
  intro k
  induction k with
  | zero => intro x3 x4 x5 res h; cases h
  | succ k ih =>
    intro x3 x4 x5 res h hg
    replace h : B_Sh_donkey_l27 N a1 σ (L_Sh_donkey_l27 N a1 σ k) x3 x4 x5 = some res := h
    unfold B_Sh_donkey_l27 at h
    refine V.iload d_Sh_donkey_27 5 rfl ?_
    refine V.sipush (v := 144) d_Sh_donkey_29 (by decide) ?_
    refine V.icmp_ge (tgt := 91) d_Sh_donkey_32 (by decide) (fun hc32 => ?_) (fun hc32 => ?_)
    · replace h := ite_t hc32 h
      cases h
      exact V.pick [1, 3, 4] rfl (hE _ _ hg)
    · replace h := ite_f hc32 h
      refine V.aload_n d_Sh_donkey_35 rfl 2 rfl ?_
      refine V.iload d_Sh_donkey_36 5 rfl ?_
      obtain ⟨r38, h1, h⟩ := bnd1_e h
      refine V.vI (as := [.int x5]) (st := []) (c_Da_isFree Z h1) k_Da_isFree lk_Sh_225 (by decide) rfl (by decide) ly_33 ok_Da.1 rfl (Nat.le_of_ble_eq_true rfl) d_Sh_donkey_38 ?_
      obtain ⟨s41, h1, h⟩ := bnd1_e h
      have J41_85 : ∀ (y41_3 : Int32) (y41_4 : Int32), s41 = (y41_3, y41_4) → V (mkB Z) Y m_Sh_donkey 6 Q 0 0 nC σ 85 [(0, rf Z 0), (1, .int a1), (2, rf Z 33), (3, .int y41_3), (4, .int y41_4), (5, .int x5)] [] := by
        intro y41_3 y41_4 he
        rw [he] at h
        replace h := q2_e h
        obtain ⟨v85, e_v85, h⟩ := letv_e h
        refine V.iinc (v := v85) (lv' := [(5, .int v85), (0, rf Z 0), (1, .int a1), (2, rf Z 33), (3, .int y41_3), (4, .int y41_4)]) d_Sh_donkey_85 5 rfl (by rw [e_v85]; rfl) (by decide) rfl ?_
        refine V.goto (tgt := 27) d_Sh_donkey_88 (by decide) ?_
        exact V.pick [1, 2, 3, 4, 5, 0] rfl (ih _ _ _ _ h hg)
      replace h := h1
      refine V.if_eq (tgt := 85) d_Sh_donkey_41 (by decide) (fun hc41 => ?_) (fun hc41 => ?_)
      · replace h := ite_t hc41 h
        exact V.pick [0, 1, 2, 3, 4, 5] rfl (J41_85 _ _ (Option.some.inj h).symm)
      · replace h := ite_f hc41 h
        refine V.aload_n d_Sh_donkey_44 rfl 0 rfl ?_
        refine V.getR (r := 19) ok_Sh fl_Sh_38 (by decide) (by decide) ly_0 rfl d_Sh_donkey_45 ?_
        refine V.iload d_Sh_donkey_48 5 rfl ?_
        refine V.bipush (v := 12) d_Sh_donkey_50 (by decide) ?_
        refine V.isub d_Sh_donkey_52 ?_
        obtain ⟨r53, h1, h⟩ := bnd1_e h
        refine V.vI (as := [.int (x5 - 12)]) (st := []) (c_To_houseOn Z h1) k_To_houseOn lk_Sh_130 (by decide) rfl (by decide) ly_19 ok_To.1 rfl (Nat.le_of_ble_eq_true rfl) d_Sh_donkey_53 ?_
        refine V.iconst (v := (-1)) d_Sh_donkey_56 (by decide) ?_
        refine V.icmp_eq (tgt := 85) d_Sh_donkey_57 (by decide) (fun hc57 => ?_) (fun hc57 => ?_)
        · replace h := ite_t hc57 h
          exact V.pick [0, 1, 2, 3, 4, 5] rfl (J41_85 _ _ (Option.some.inj h).symm)
        · replace h := ite_f hc57 h
          refine V.aload_n d_Sh_donkey_60 rfl 2 rfl ?_
          refine V.iload d_Sh_donkey_61 5 rfl ?_
          obtain ⟨r63, h1, h⟩ := bnd1_e h
          refine V.vI (as := [.int x5]) (st := []) (c_Da_longestRow Z h1) k_Da_longestRow lk_Sh_222 (by decide) rfl (by decide) ly_33 ok_Da.1 rfl (Nat.le_of_ble_eq_true rfl) d_Sh_donkey_63 ?_
          refine V.bipush (v := 24) d_Sh_donkey_66 (by decide) ?_
          refine V.idiv d_Sh_donkey_68 (by decide) ?_
          obtain ⟨v69, e_v69, h⟩ := letv_e h
          refine V.topI e_v69 ?_
          refine V.istore (lv' := [(6, .int v69), (0, rf Z 0), (1, .int a1), (2, rf Z 33), (3, .int x3), (4, .int x4), (5, .int x5)]) d_Sh_donkey_69 (by decide) rfl ?_
          refine V.iload d_Sh_donkey_71 0 rfl ?_
          refine V.iload d_Sh_donkey_73 5 rfl ?_
          refine V.icmp_le (tgt := 85) d_Sh_donkey_75 (by decide) (fun hc75 => ?_) (fun hc75 => ?_)
          · replace h := ite_t hc75 h
            exact V.pick [1, 2, 3, 4, 5, 6] rfl (J41_85 _ _ (Option.some.inj h).symm)
          · replace h := ite_f hc75 h
            refine V.iload d_Sh_donkey_78 0 rfl ?_
            refine V.istore (lv' := [(4, .int v69), (6, .int v69), (0, rf Z 0), (1, .int a1), (2, rf Z 33), (3, .int x3), (5, .int x5)]) d_Sh_donkey_80 (by decide) rfl ?_
            refine V.iload d_Sh_donkey_82 6 rfl ?_
            refine V.istore_n (lv' := [(3, .int x5), (4, .int v69), (6, .int v69), (0, rf Z 0), (1, .int a1), (2, rf Z 33), (5, .int x5)]) d_Sh_donkey_84 rfl (by decide) rfl ?_
            exact V.pick [3, 4, 5, 0, 1, 6] rfl (J41_85 _ _ (Option.some.inj h).symm)
def f_Sh_donkey (N : Nat) (σ : Mem) (a1 : Int32) : Option (Int32 × Mem) :=
  if a1 < 0 then
    (some ((-1), σ))
  else
    (if a1 ≤ 1 then
      (bnd1 (f_Sh_today N σ) fun σ12 =>
      bnd1 (L_Sh_donkey_l27 N a1 σ12 N (-2) (-2) 12) fun x27_ =>
      q2 x27_ fun z27_3 z27_4 =>
      if a1 = 0 then
        (some (z27_3, σ12))
      else
        (some (z27_4, σ12)))
    else
      (some ((-1), σ)))
set_option maxHeartbeats 4000000 in
set_option maxRecDepth 20000 in
theorem c_Sh_donkey (Z : ZX) {N : Nat} {σ : Mem} {a1 : Int32} {r : Int32} {σ' : Mem} (h : f_Sh_donkey N σ a1 = some (r, σ')) : CI Z 6 m_Sh_donkey [rf Z 0, .int a1] σ r σ' := by
  refine Ct.of (by decide +kernel) (Nat.le_of_ble_eq_true rfl) (fun Y => ?_)
  show V (mkB Z) Y m_Sh_donkey 6 (QP (mkB Z) Y nC 0 0 (fun v t => v = some (.int r) ∧ t = σ')) 0 0 nC σ 0 [(0, rf Z 0), (1, .int a1)] []
  unfold f_Sh_donkey at h
  refine V.iload_n d_Sh_donkey_0 rfl 1 rfl ?_
  refine V.if_lt (tgt := 9) d_Sh_donkey_1 (by decide) (fun hc1 => ?_) (fun hc1 => ?_)
  · replace h := ite_t hc1 h
    refine V.iconst (v := (-1)) d_Sh_donkey_9 (by decide) ?_
    cases h
    exact V.iret rfl d_Sh_donkey_10 ⟨rfl, rfl⟩
  · replace h := ite_f hc1 h
    refine V.iload_n d_Sh_donkey_4 rfl 1 rfl ?_
    refine V.iconst (v := 1) d_Sh_donkey_5 (by decide) ?_
    refine V.icmp_le (tgt := 11) d_Sh_donkey_6 (by decide) (fun hc6 => ?_) (fun hc6 => ?_)
    · replace h := ite_t hc6 h
      refine V.aload_n d_Sh_donkey_11 rfl 0 rfl ?_
      obtain ⟨σ12, h1, h⟩ := bnd1_e h
      refine V.vA (as := []) (st := []) (c_Sh_today Z h1) k_Sh_today lk_Sh_181 (by decide) rfl (by decide) ly_0 ok_Sh.1 rfl (Nat.le_of_ble_eq_true rfl) d_Sh_donkey_12 ?_
      refine V.astore_n (lv' := [(2, rf Z 33), (0, rf Z 0), (1, .int a1)]) d_Sh_donkey_15 rfl (by decide) rfl ?_
      refine V.bipush (v := (-2)) d_Sh_donkey_16 (by decide) ?_
      refine V.istore_n (lv' := [(3, .int (-2)), (2, rf Z 33), (0, rf Z 0), (1, .int a1)]) d_Sh_donkey_18 rfl (by decide) rfl ?_
      refine V.bipush (v := (-2)) d_Sh_donkey_19 (by decide) ?_
      refine V.istore (lv' := [(4, .int (-2)), (3, .int (-2)), (2, rf Z 33), (0, rf Z 0), (1, .int a1)]) d_Sh_donkey_21 (by decide) rfl ?_
      refine V.bipush (v := 12) d_Sh_donkey_23 (by decide) ?_
      refine V.istore (lv' := [(5, .int 12), (4, .int (-2)), (3, .int (-2)), (2, rf Z 33), (0, rf Z 0), (1, .int a1)]) d_Sh_donkey_25 (by decide) rfl ?_
      obtain ⟨x27_, h1, h⟩ := bnd1_e h
      refine V.pick [4, 5, 3, 2, 1, 0] rfl (cL_Sh_donkey_l27 Z (Good := fun z => x27_ = z) (fun z27_3 z27_4 he => ?_) N _ _ _ _ h1 rfl)
      · rw [he] at h
        replace h := q2_e h
        refine V.iload_n d_Sh_donkey_91 rfl 0 rfl ?_
        refine V.if_ne (tgt := 99) d_Sh_donkey_92 (by decide) (fun hc92 => ?_) (fun hc92 => ?_)
        · replace h := ite_f hc92 h
          refine V.iload d_Sh_donkey_99 2 rfl ?_
          cases h
          exact V.iret rfl d_Sh_donkey_101 ⟨rfl, rfl⟩
        · replace h := ite_t hc92 h
          refine V.iload_n d_Sh_donkey_95 rfl 1 rfl ?_
          refine V.goto (tgt := 101) d_Sh_donkey_96 (by decide) ?_
          cases h
          exact V.iret rfl d_Sh_donkey_101 ⟨rfl, rfl⟩
    · replace h := ite_f hc6 h
      refine V.iconst (v := (-1)) d_Sh_donkey_9 (by decide) ?_
      cases h
      exact V.iret rfl d_Sh_donkey_10 ⟨rfl, rfl⟩
abbrev m_Sh_areHours : MI := (⟨"ShadeTown", "areHours", "(III)Z"⟩, prog_1_method_44_code, 3, (Option.some Jvm.ClassFile.FieldType.boolean))
theorem d_Sh_areHours_0 : decode prog_1_method_44_code 0 = .ok (.iload_n 0, 1) := by decide +kernel
theorem d_Sh_areHours_26 : decode prog_1_method_44_code 26 = .ok (.iconst 0, 1) := by decide +kernel
theorem d_Sh_areHours_27 : decode prog_1_method_44_code 27 = .ok (.ireturn, 1) := by decide +kernel
theorem d_Sh_areHours_4 : decode prog_1_method_44_code 4 = .ok (.iload_n 0, 1) := by decide +kernel
theorem d_Sh_areHours_5 : decode prog_1_method_44_code 5 = .ok (.iload_n 1, 1) := by decide +kernel
theorem d_Sh_areHours_9 : decode prog_1_method_44_code 9 = .ok (.iload_n 1, 1) := by decide +kernel
theorem d_Sh_areHours_10 : decode prog_1_method_44_code 10 = .ok (.bipush 24, 2) := by decide +kernel
theorem d_Sh_areHours_15 : decode prog_1_method_44_code 15 = .ok (.iload_n 1, 1) := by decide +kernel
theorem d_Sh_areHours_16 : decode prog_1_method_44_code 16 = .ok (.iload_n 0, 1) := by decide +kernel
theorem d_Sh_areHours_17 : decode prog_1_method_44_code 17 = .ok (.isub, 1) := by decide +kernel
theorem d_Sh_areHours_18 : decode prog_1_method_44_code 18 = .ok (.iload_n 2, 1) := by decide +kernel
theorem d_Sh_areHours_22 : decode prog_1_method_44_code 22 = .ok (.iconst 1, 1) := by decide +kernel
theorem d_Sh_areHours_23 : decode prog_1_method_44_code 23 = .ok (.goto 4, 3) := by decide +kernel
theorem d_Sh_areHours_19 : decode prog_1_method_44_code 19 = .ok (.if_icmp .gt 7, 3) := by decide +kernel
theorem d_Sh_areHours_12 : decode prog_1_method_44_code 12 = .ok (.if_icmp .gt 14, 3) := by decide +kernel
theorem d_Sh_areHours_6 : decode prog_1_method_44_code 6 = .ok (.if_icmp .ge 20, 3) := by decide +kernel
theorem d_Sh_areHours_1 : decode prog_1_method_44_code 1 = .ok (.ifCond .lt 25, 3) := by decide +kernel
def f_Sh_areHours (a0 : Int32) (a1 : Int32) (a2 : Int32) : Option (Int32) :=
  if a0 < 0 then
    (some 0)
  else
    (if a1 ≤ a0 then
      (some 0)
    else
      (if 24 < a1 then
        (some 0)
      else
        (if a2 < (a1 - a0) then
          (some 0)
        else
          (some 1))))
set_option maxHeartbeats 4000000 in
set_option maxRecDepth 20000 in
theorem c_Sh_areHours (Z : ZX) {σ : Mem} {a0 : Int32} {a1 : Int32} {a2 : Int32} {r : Int32} (h : f_Sh_areHours a0 a1 a2 = some r) : CI Z 0 m_Sh_areHours [.int a0, .int a1, .int a2] σ r σ := by
  refine Ct.of (by decide +kernel) (Nat.le_of_ble_eq_true rfl) (fun Y => ?_)
  show V (mkB Z) Y m_Sh_areHours 0 (QP (mkB Z) Y nC 0 0 (fun v t => v = some (.int r) ∧ t = σ)) 0 0 nC σ 0 [(0, .int a0), (1, .int a1), (2, .int a2)] []
  unfold f_Sh_areHours at h
  refine V.iload_n d_Sh_areHours_0 rfl 0 rfl ?_
  refine V.if_lt (tgt := 26) d_Sh_areHours_1 (by decide) (fun hc1 => ?_) (fun hc1 => ?_)
  · replace h := ite_t hc1 h
    refine V.iconst (v := 0) d_Sh_areHours_26 (by decide) ?_
    cases h
    exact V.zret rfl rfl d_Sh_areHours_27 ⟨rfl, rfl⟩
  · replace h := ite_f hc1 h
    refine V.iload_n d_Sh_areHours_4 rfl 0 rfl ?_
    refine V.iload_n d_Sh_areHours_5 rfl 1 rfl ?_
    refine V.icmp_ge (tgt := 26) d_Sh_areHours_6 (by decide) (fun hc6 => ?_) (fun hc6 => ?_)
    · replace h := ite_t hc6 h
      refine V.iconst (v := 0) d_Sh_areHours_26 (by decide) ?_
      cases h
      exact V.zret rfl rfl d_Sh_areHours_27 ⟨rfl, rfl⟩
    · replace h := ite_f hc6 h
      refine V.iload_n d_Sh_areHours_9 rfl 1 rfl ?_
      refine V.bipush (v := 24) d_Sh_areHours_10 (by decide) ?_
      refine V.icmp_gt (tgt := 26) d_Sh_areHours_12 (by decide) (fun hc12 => ?_) (fun hc12 => ?_)
      · replace h := ite_t hc12 h
        refine V.iconst (v := 0) d_Sh_areHours_26 (by decide) ?_
        cases h
        exact V.zret rfl rfl d_Sh_areHours_27 ⟨rfl, rfl⟩
      · replace h := ite_f hc12 h
        refine V.iload_n d_Sh_areHours_15 rfl 1 rfl ?_
        refine V.iload_n d_Sh_areHours_16 rfl 0 rfl ?_
        refine V.isub d_Sh_areHours_17 ?_
        refine V.iload_n d_Sh_areHours_18 rfl 2 rfl ?_
        refine V.icmp_gt (tgt := 26) d_Sh_areHours_19 (by decide) (fun hc19 => ?_) (fun hc19 => ?_)
        · replace h := ite_t hc19 h
          refine V.iconst (v := 0) d_Sh_areHours_26 (by decide) ?_
          cases h
          exact V.zret rfl rfl d_Sh_areHours_27 ⟨rfl, rfl⟩
        · replace h := ite_f hc19 h
          refine V.iconst (v := 1) d_Sh_areHours_22 (by decide) ?_
          refine V.goto (tgt := 27) d_Sh_areHours_23 (by decide) ?_
          cases h
          exact V.zret rfl rfl d_Sh_areHours_27 ⟨rfl, rfl⟩
abbrev m_St_costAfter : MI := (⟨"ShadeTown$Strips", "costAfter", "(III)I"⟩, prog_7_method_7_code, 5, (Option.some Jvm.ClassFile.FieldType.int))
theorem d_St_costAfter_0 : decode prog_7_method_7_code 0 = .ok (.iload_n 3, 1) := by decide +kernel
theorem kc_St_22 : Cond.constant "ShadeTown$Strips" 22 (268435456) ∈ tblG := atG 313 (by decide +kernel) rfl
theorem d_St_costAfter_10 : decode prog_7_method_7_code 10 = .ok (.ldc 22, 2) := by decide +kernel
theorem d_St_costAfter_12 : decode prog_7_method_7_code 12 = .ok (.ireturn, 1) := by decide +kernel
theorem d_St_costAfter_4 : decode prog_7_method_7_code 4 = .ok (.iload_n 1, 1) := by decide +kernel
theorem d_St_costAfter_5 : decode prog_7_method_7_code 5 = .ok (.bipush 12, 2) := by decide +kernel
theorem d_St_costAfter_13 : decode prog_7_method_7_code 13 = .ok (.aload_n 0, 1) := by decide +kernel
theorem fl_St_11 : FL "ShadeTown$Strips" 11 T_St 0 := atG 314 (by decide +kernel) rfl
theorem d_St_costAfter_14 : decode prog_7_method_7_code 14 = .ok (.getfield 11, 3) := by decide +kernel
theorem d_St_costAfter_17 : decode prog_7_method_7_code 17 = .ok (.iload_n 1, 1) := by decide +kernel
theorem d_St_costAfter_18 : decode prog_7_method_7_code 18 = .ok (.sipush 144, 3) := by decide +kernel
theorem d_St_costAfter_21 : decode prog_7_method_7_code 21 = .ok (.imul, 1) := by decide +kernel
theorem d_St_costAfter_22 : decode prog_7_method_7_code 22 = .ok (.iload_n 3, 1) := by decide +kernel
theorem d_St_costAfter_23 : decode prog_7_method_7_code 23 = .ok (.iadd, 1) := by decide +kernel
theorem d_St_costAfter_24 : decode prog_7_method_7_code 24 = .ok (.iaload, 1) := by decide +kernel
theorem d_St_costAfter_25 : decode prog_7_method_7_code 25 = .ok (.istore 4, 2) := by decide +kernel
theorem d_St_costAfter_27 : decode prog_7_method_7_code 27 = .ok (.iload 4, 2) := by decide +kernel
theorem d_St_costAfter_29 : decode prog_7_method_7_code 29 = .ok (.ldc 22, 2) := by decide +kernel
theorem d_St_costAfter_39 : decode prog_7_method_7_code 39 = .ok (.iload 4, 2) := by decide +kernel
theorem d_St_costAfter_41 : decode prog_7_method_7_code 41 = .ok (.goto 7, 3) := by decide +kernel
theorem d_St_costAfter_48 : decode prog_7_method_7_code 48 = .ok (.ireturn, 1) := by decide +kernel
theorem d_St_costAfter_34 : decode prog_7_method_7_code 34 = .ok (.iload_n 3, 1) := by decide +kernel
theorem d_St_costAfter_35 : decode prog_7_method_7_code 35 = .ok (.iload_n 2, 1) := by decide +kernel
theorem d_St_costAfter_44 : decode prog_7_method_7_code 44 = .ok (.iload 4, 2) := by decide +kernel
theorem d_St_costAfter_46 : decode prog_7_method_7_code 46 = .ok (.iconst 1, 1) := by decide +kernel
theorem d_St_costAfter_47 : decode prog_7_method_7_code 47 = .ok (.iadd, 1) := by decide +kernel
theorem d_St_costAfter_36 : decode prog_7_method_7_code 36 = .ok (.if_icmp .ne 8, 3) := by decide +kernel
theorem d_St_costAfter_31 : decode prog_7_method_7_code 31 = .ok (.if_icmp .ge 8, 3) := by decide +kernel
theorem d_St_costAfter_7 : decode prog_7_method_7_code 7 = .ok (.if_icmp .lt 6, 3) := by decide +kernel
theorem d_St_costAfter_1 : decode prog_7_method_7_code 1 = .ok (.ifCond .lt 9, 3) := by decide +kernel
def f_St_costAfter (σ : Mem) (a1 : Int32) (a2 : Int32) (a3 : Int32) : Option (Int32) :=
  if a3 < 0 then
    (some 268435456)
  else
    (if a1 < 12 then
      (grd (inb ((a1 * 144) + a3) 1728) <|
      letv (mI σ 42 (((a1 * 144) + a3).toNatClampNeg)) fun v25 =>
      if 268435456 ≤ v25 then
        (some v25)
      else
        (if a3 = a2 then
          (some v25)
        else
          (some (v25 + 1))))
    else
      (some 268435456))
set_option maxHeartbeats 4000000 in
set_option maxRecDepth 20000 in
theorem c_St_costAfter (Z : ZX) {σ : Mem} {a1 : Int32} {a2 : Int32} {a3 : Int32} {r : Int32} (h : f_St_costAfter σ a1 a2 a3 = some r) : CI Z 0 m_St_costAfter [rf Z 41, .int a1, .int a2, .int a3] σ r σ := by
  refine Ct.of (by decide +kernel) (Nat.le_of_ble_eq_true rfl) (fun Y => ?_)
  show V (mkB Z) Y m_St_costAfter 0 (QP (mkB Z) Y nC 0 0 (fun v t => v = some (.int r) ∧ t = σ)) 0 0 nC σ 0 [(0, rf Z 41), (1, .int a1), (2, .int a2), (3, .int a3)] []
  unfold f_St_costAfter at h
  refine V.iload_n d_St_costAfter_0 rfl 3 rfl ?_
  refine V.if_lt (tgt := 10) d_St_costAfter_1 (by decide) (fun hc1 => ?_) (fun hc1 => ?_)
  · replace h := ite_t hc1 h
    refine V.ldc (v := 268435456) kc_St_22 d_St_costAfter_10 ?_
    cases h
    exact V.iret rfl d_St_costAfter_12 ⟨rfl, rfl⟩
  · replace h := ite_f hc1 h
    refine V.iload_n d_St_costAfter_4 rfl 1 rfl ?_
    refine V.bipush (v := 12) d_St_costAfter_5 (by decide) ?_
    refine V.icmp_lt (tgt := 13) d_St_costAfter_7 (by decide) (fun hc7 => ?_) (fun hc7 => ?_)
    · replace h := ite_t hc7 h
      refine V.aload_n d_St_costAfter_13 rfl 0 rfl ?_
      refine V.getR (r := 42) ok_St fl_St_11 (by decide) (by decide) ly_41 rfl d_St_costAfter_14 ?_
      refine V.iload_n d_St_costAfter_17 rfl 1 rfl ?_
      refine V.sipush (v := 144) d_St_costAfter_18 (by decide) ?_
      refine V.imul d_St_costAfter_21 ?_
      refine V.iload_n d_St_costAfter_22 rfl 3 rfl ?_
      refine V.iadd d_St_costAfter_23 ?_
      obtain ⟨gq, h⟩ := grd_e h
      refine V.ra (by decide) ly_42 (inb_e gq) rfl d_St_costAfter_24 ?_
      obtain ⟨v25, e_v25, h⟩ := letv_e h
      refine V.topI e_v25 ?_
      refine V.istore (lv' := [(4, .int v25), (0, rf Z 41), (1, .int a1), (2, .int a2), (3, .int a3)]) d_St_costAfter_25 (by decide) rfl ?_
      refine V.iload d_St_costAfter_27 0 rfl ?_
      refine V.ldc (v := 268435456) kc_St_22 d_St_costAfter_29 ?_
      refine V.icmp_ge (tgt := 39) d_St_costAfter_31 (by decide) (fun hc31 => ?_) (fun hc31 => ?_)
      · replace h := ite_t hc31 h
        refine V.iload d_St_costAfter_39 0 rfl ?_
        refine V.goto (tgt := 48) d_St_costAfter_41 (by decide) ?_
        cases h
        exact V.iret rfl d_St_costAfter_48 ⟨rfl, rfl⟩
      · replace h := ite_f hc31 h
        refine V.iload_n d_St_costAfter_34 rfl 4 rfl ?_
        refine V.iload_n d_St_costAfter_35 rfl 3 rfl ?_
        refine V.icmp_ne (tgt := 44) d_St_costAfter_36 (by decide) (fun hc36 => ?_) (fun hc36 => ?_)
        · replace h := ite_f hc36 h
          refine V.iload d_St_costAfter_44 0 rfl ?_
          refine V.iconst (v := 1) d_St_costAfter_46 (by decide) ?_
          refine V.iadd d_St_costAfter_47 ?_
          cases h
          exact V.iret rfl d_St_costAfter_48 ⟨rfl, rfl⟩
        · replace h := ite_t hc36 h
          refine V.iload d_St_costAfter_39 0 rfl ?_
          refine V.goto (tgt := 48) d_St_costAfter_41 (by decide) ?_
          cases h
          exact V.iret rfl d_St_costAfter_48 ⟨rfl, rfl⟩
    · replace h := ite_f hc7 h
      refine V.ldc (v := 268435456) kc_St_22 d_St_costAfter_10 ?_
      cases h
      exact V.iret rfl d_St_costAfter_12 ⟨rfl, rfl⟩
abbrev m_Sh_beside : MI := (⟨"ShadeTown", "beside", "(II)I"⟩, prog_1_method_49_code, 4, (Option.some Jvm.ClassFile.FieldType.int))
theorem d_Sh_beside_0 : decode prog_1_method_49_code 0 = .ok (.iload_n 0, 1) := by decide +kernel
theorem d_Sh_beside_1 : decode prog_1_method_49_code 1 = .ok (.bipush 12, 2) := by decide +kernel
theorem d_Sh_beside_3 : decode prog_1_method_49_code 3 = .ok (.irem, 1) := by decide +kernel
theorem d_Sh_beside_4 : decode prog_1_method_49_code 4 = .ok (.iload_n 1, 1) := by decide +kernel
theorem d_Sh_beside_5 : decode prog_1_method_49_code 5 = .ok (.invokestatic 388, 3) := by decide +kernel
theorem lk_Sh_388 : Cond.methodLink "ShadeTown" 388 ⟨"ShadeTown", "eastOf", "(I)I"⟩ ∈ tblG := atG 951 (by decide +kernel) rfl
theorem d_Sh_beside_8 : decode prog_1_method_49_code 8 = .ok (.iadd, 1) := by decide +kernel
theorem d_Sh_beside_9 : decode prog_1_method_49_code 9 = .ok (.istore_n 2, 1) := by decide +kernel
theorem d_Sh_beside_10 : decode prog_1_method_49_code 10 = .ok (.iload_n 0, 1) := by decide +kernel
theorem d_Sh_beside_11 : decode prog_1_method_49_code 11 = .ok (.bipush 12, 2) := by decide +kernel
theorem d_Sh_beside_13 : decode prog_1_method_49_code 13 = .ok (.idiv, 1) := by decide +kernel
theorem d_Sh_beside_14 : decode prog_1_method_49_code 14 = .ok (.iload_n 1, 1) := by decide +kernel
theorem d_Sh_beside_15 : decode prog_1_method_49_code 15 = .ok (.invokestatic 391, 3) := by decide +kernel
theorem lk_Sh_391 : Cond.methodLink "ShadeTown" 391 ⟨"ShadeTown", "northOf", "(I)I"⟩ ∈ tblG := atG 952 (by decide +kernel) rfl
theorem d_Sh_beside_18 : decode prog_1_method_49_code 18 = .ok (.iadd, 1) := by decide +kernel
theorem d_Sh_beside_19 : decode prog_1_method_49_code 19 = .ok (.istore_n 3, 1) := by decide +kernel
theorem d_Sh_beside_20 : decode prog_1_method_49_code 20 = .ok (.iload_n 2, 1) := by decide +kernel
theorem d_Sh_beside_21 : decode prog_1_method_49_code 21 = .ok (.iload_n 3, 1) := by decide +kernel
theorem d_Sh_beside_22 : decode prog_1_method_49_code 22 = .ok (.invokestatic 119, 3) := by decide +kernel
theorem d_Sh_beside_37 : decode prog_1_method_49_code 37 = .ok (.iconst (-1), 1) := by decide +kernel
theorem d_Sh_beside_38 : decode prog_1_method_49_code 38 = .ok (.ireturn, 1) := by decide +kernel
theorem d_Sh_beside_28 : decode prog_1_method_49_code 28 = .ok (.bipush 12, 2) := by decide +kernel
theorem d_Sh_beside_30 : decode prog_1_method_49_code 30 = .ok (.iload_n 3, 1) := by decide +kernel
theorem d_Sh_beside_31 : decode prog_1_method_49_code 31 = .ok (.imul, 1) := by decide +kernel
theorem d_Sh_beside_32 : decode prog_1_method_49_code 32 = .ok (.iload_n 2, 1) := by decide +kernel
theorem d_Sh_beside_33 : decode prog_1_method_49_code 33 = .ok (.iadd, 1) := by decide +kernel
theorem d_Sh_beside_34 : decode prog_1_method_49_code 34 = .ok (.goto 4, 3) := by decide +kernel
theorem d_Sh_beside_25 : decode prog_1_method_49_code 25 = .ok (.ifCond .eq 12, 3) := by decide +kernel
def f_Sh_beside (a0 : Int32) (a1 : Int32) : Option (Int32) :=
  bnd1 (f_Sh_eastOf a1) fun r5 =>
  letv ((a0 - a0 / 12 * 12) + r5) fun v9 =>
  bnd1 (f_Sh_northOf a1) fun r15 =>
  letv ((a0 / 12) + r15) fun v19 =>
  bnd1 (f_Sh_inTown v9 v19) fun r22 =>
  if r22 = 0 then
    (some (-1))
  else
    (some ((12 * v19) + v9))
set_option maxHeartbeats 4000000 in
set_option maxRecDepth 20000 in
theorem c_Sh_beside (Z : ZX) {σ : Mem} {a0 : Int32} {a1 : Int32} {r : Int32} (h : f_Sh_beside a0 a1 = some r) : CI Z 1 m_Sh_beside [.int a0, .int a1] σ r σ := by
  refine Ct.of (by decide +kernel) (Nat.le_of_ble_eq_true rfl) (fun Y => ?_)
  show V (mkB Z) Y m_Sh_beside 1 (QP (mkB Z) Y nC 0 0 (fun v t => v = some (.int r) ∧ t = σ)) 0 0 nC σ 0 [(0, .int a0), (1, .int a1)] []
  unfold f_Sh_beside at h
  refine V.iload_n d_Sh_beside_0 rfl 0 rfl ?_
  refine V.bipush (v := 12) d_Sh_beside_1 (by decide) ?_
  refine V.irem d_Sh_beside_3 (by decide) ?_
  refine V.iload_n d_Sh_beside_4 rfl 1 rfl ?_
  obtain ⟨r5, h1, h⟩ := bnd1_e h
  refine V.sI (as := [.int a1]) (st := [.int (a0 - a0 / 12 * 12)]) (c_Sh_eastOf Z h1) k_Sh_eastOf lk_Sh_388 (by decide) rfl rfl (Nat.le_of_ble_eq_true rfl) d_Sh_beside_5 ?_
  refine V.iadd d_Sh_beside_8 ?_
  obtain ⟨v9, e_v9, h⟩ := letv_e h
  refine V.topI e_v9 ?_
  refine V.istore_n (lv' := [(2, .int v9), (0, .int a0), (1, .int a1)]) d_Sh_beside_9 rfl (by decide) rfl ?_
  refine V.iload_n d_Sh_beside_10 rfl 1 rfl ?_
  refine V.bipush (v := 12) d_Sh_beside_11 (by decide) ?_
  refine V.idiv d_Sh_beside_13 (by decide) ?_
  refine V.iload_n d_Sh_beside_14 rfl 2 rfl ?_
  obtain ⟨r15, h1, h⟩ := bnd1_e h
  refine V.sI (as := [.int a1]) (st := [.int (a0 / 12)]) (c_Sh_northOf Z h1) k_Sh_northOf lk_Sh_391 (by decide) rfl rfl (Nat.le_of_ble_eq_true rfl) d_Sh_beside_15 ?_
  refine V.iadd d_Sh_beside_18 ?_
  obtain ⟨v19, e_v19, h⟩ := letv_e h
  refine V.topI e_v19 ?_
  refine V.istore_n (lv' := [(3, .int v19), (2, .int v9), (0, .int a0), (1, .int a1)]) d_Sh_beside_19 rfl (by decide) rfl ?_
  refine V.iload_n d_Sh_beside_20 rfl 1 rfl ?_
  refine V.iload_n d_Sh_beside_21 rfl 0 rfl ?_
  obtain ⟨r22, h1, h⟩ := bnd1_e h
  refine V.sI (as := [.int v9, .int v19]) (st := []) (c_Sh_inTown Z h1) k_Sh_inTown lk_Sh_119 (by decide) rfl rfl (Nat.le_of_ble_eq_true rfl) d_Sh_beside_22 ?_
  refine V.if_eq (tgt := 37) d_Sh_beside_25 (by decide) (fun hc25 => ?_) (fun hc25 => ?_)
  · replace h := ite_t hc25 h
    refine V.iconst (v := (-1)) d_Sh_beside_37 (by decide) ?_
    cases h
    exact V.iret rfl d_Sh_beside_38 ⟨rfl, rfl⟩
  · replace h := ite_f hc25 h
    refine V.bipush (v := 12) d_Sh_beside_28 (by decide) ?_
    refine V.iload_n d_Sh_beside_30 rfl 0 rfl ?_
    refine V.imul d_Sh_beside_31 ?_
    refine V.iload_n d_Sh_beside_32 rfl 1 rfl ?_
    refine V.iadd d_Sh_beside_33 ?_
    refine V.goto (tgt := 38) d_Sh_beside_34 (by decide) ?_
    cases h
    exact V.iret rfl d_Sh_beside_38 ⟨rfl, rfl⟩
abbrev m_St_bestAfter : MI := (⟨"ShadeTown$Strips", "bestAfter", "(II)I"⟩, prog_7_method_8_code, 8, (Option.some Jvm.ClassFile.FieldType.int))
theorem d_St_bestAfter_0 : decode prog_7_method_8_code 0 = .ok (.iload_n 2, 1) := by decide +kernel
theorem d_St_bestAfter_1 : decode prog_7_method_8_code 1 = .ok (.istore_n 3, 1) := by decide +kernel
theorem d_St_bestAfter_2 : decode prog_7_method_8_code 2 = .ok (.aload_n 0, 1) := by decide +kernel
theorem d_St_bestAfter_3 : decode prog_7_method_8_code 3 = .ok (.iload_n 1, 1) := by decide +kernel
theorem d_St_bestAfter_4 : decode prog_7_method_8_code 4 = .ok (.iload_n 2, 1) := by decide +kernel
theorem d_St_bestAfter_5 : decode prog_7_method_8_code 5 = .ok (.iload_n 2, 1) := by decide +kernel
theorem d_St_bestAfter_6 : decode prog_7_method_8_code 6 = .ok (.invokevirtual 44, 3) := by decide +kernel
theorem k_St_costAfter : MOk m_St_costAfter 3 ∧ IOk m_St_costAfter := ⟨⟨atG 947 (by decide +kernel) rfl, atG 117 (by decide +kernel) rfl, ⟨by decide, by decide⟩, by decide +kernel, by decide⟩, atG 946 (by decide +kernel) rfl, atG 23 (by decide +kernel) rfl⟩
theorem lk_St_44 : Cond.methodLink "ShadeTown$Strips" 44 ⟨"ShadeTown$Strips", "costAfter", "(III)I"⟩ ∈ tblG := atG 944 (by decide +kernel) rfl
theorem d_St_bestAfter_9 : decode prog_7_method_8_code 9 = .ok (.istore 4, 2) := by decide +kernel
theorem d_St_bestAfter_11 : decode prog_7_method_8_code 11 = .ok (.iconst 0, 1) := by decide +kernel
theorem d_St_bestAfter_12 : decode prog_7_method_8_code 12 = .ok (.istore 5, 2) := by decide +kernel
theorem d_St_bestAfter_14 : decode prog_7_method_8_code 14 = .ok (.iload 5, 2) := by decide +kernel
theorem d_St_bestAfter_16 : decode prog_7_method_8_code 16 = .ok (.iconst 4, 1) := by decide +kernel
theorem d_St_bestAfter_76 : decode prog_7_method_8_code 76 = .ok (.iload_n 3, 1) := by decide +kernel
theorem d_St_bestAfter_77 : decode prog_7_method_8_code 77 = .ok (.ireturn, 1) := by decide +kernel
theorem d_St_bestAfter_20 : decode prog_7_method_8_code 20 = .ok (.iload_n 2, 1) := by decide +kernel
theorem d_St_bestAfter_21 : decode prog_7_method_8_code 21 = .ok (.iload 5, 2) := by decide +kernel
theorem d_St_bestAfter_23 : decode prog_7_method_8_code 23 = .ok (.invokestatic 51, 3) := by decide +kernel
theorem k_Sh_beside : MOk m_Sh_beside 2 ∧ Cond.static m_Sh_beside.1 ∈ tblG := ⟨⟨atG 950 (by decide +kernel) rfl, atG 111 (by decide +kernel) rfl, ⟨by decide, by decide⟩, by decide +kernel, by decide⟩, atG 949 (by decide +kernel) rfl⟩
theorem ln_St_51 : Cond.methodLinkNest "ShadeTown$Strips" 51 ⟨"ShadeTown", "beside", "(II)I"⟩ "ShadeTown" ∈ nestW := List.mem_of_getElem? (i := 12) rfl
theorem d_St_bestAfter_26 : decode prog_7_method_8_code 26 = .ok (.istore 6, 2) := by decide +kernel
theorem d_St_bestAfter_28 : decode prog_7_method_8_code 28 = .ok (.aload_n 0, 1) := by decide +kernel
theorem d_St_bestAfter_29 : decode prog_7_method_8_code 29 = .ok (.iload_n 1, 1) := by decide +kernel
theorem d_St_bestAfter_30 : decode prog_7_method_8_code 30 = .ok (.iload_n 2, 1) := by decide +kernel
theorem d_St_bestAfter_31 : decode prog_7_method_8_code 31 = .ok (.iload 6, 2) := by decide +kernel
theorem d_St_bestAfter_33 : decode prog_7_method_8_code 33 = .ok (.invokevirtual 44, 3) := by decide +kernel
theorem d_St_bestAfter_36 : decode prog_7_method_8_code 36 = .ok (.istore 7, 2) := by decide +kernel
theorem d_St_bestAfter_38 : decode prog_7_method_8_code 38 = .ok (.iload 7, 2) := by decide +kernel
theorem d_St_bestAfter_40 : decode prog_7_method_8_code 40 = .ok (.iload 4, 2) := by decide +kernel
theorem d_St_bestAfter_45 : decode prog_7_method_8_code 45 = .ok (.iload 7, 2) := by decide +kernel
theorem d_St_bestAfter_47 : decode prog_7_method_8_code 47 = .ok (.iload 4, 2) := by decide +kernel
theorem d_St_bestAfter_52 : decode prog_7_method_8_code 52 = .ok (.iload 6, 2) := by decide +kernel
theorem d_St_bestAfter_57 : decode prog_7_method_8_code 57 = .ok (.iload 6, 2) := by decide +kernel
theorem d_St_bestAfter_59 : decode prog_7_method_8_code 59 = .ok (.iload_n 3, 1) := by decide +kernel
theorem d_St_bestAfter_60 : decode prog_7_method_8_code 60 = .ok (.if_icmp .ge 10, 3) := by decide +kernel
theorem d_St_bestAfter_54 : decode prog_7_method_8_code 54 = .ok (.ifCond .lt 16, 3) := by decide +kernel
theorem d_St_bestAfter_49 : decode prog_7_method_8_code 49 = .ok (.if_icmp .ne 21, 3) := by decide +kernel
theorem d_St_bestAfter_42 : decode prog_7_method_8_code 42 = .ok (.if_icmp .lt 21, 3) := by decide +kernel
theorem d_St_bestAfter_63 : decode prog_7_method_8_code 63 = .ok (.iload 7, 2) := by decide +kernel
theorem d_St_bestAfter_65 : decode prog_7_method_8_code 65 = .ok (.istore 4, 2) := by decide +kernel
theorem d_St_bestAfter_67 : decode prog_7_method_8_code 67 = .ok (.iload 6, 2) := by decide +kernel
theorem d_St_bestAfter_69 : decode prog_7_method_8_code 69 = .ok (.istore_n 3, 1) := by decide +kernel
theorem d_St_bestAfter_70 : decode prog_7_method_8_code 70 = .ok (.iinc 5 1, 3) := by decide +kernel
theorem d_St_bestAfter_73 : decode prog_7_method_8_code 73 = .ok (.goto (-59), 3) := by decide +kernel
theorem d_St_bestAfter_17 : decode prog_7_method_8_code 17 = .ok (.if_icmp .ge 59, 3) := by decide +kernel
def B_St_bestAfter_l14 (N : Nat) (a1 : Int32) (a2 : Int32) (σ : Mem) (rec : Int32 → Int32 → Int32 → Option (Int32)) (x3 : Int32) (x4 : Int32) (x5 : Int32) : Option (Int32) :=
  if 4 ≤ x5 then
    (some x3)
  else
    (bnd1 (f_Sh_beside a2 x5) fun r23 =>
    bnd1 (f_St_costAfter σ a1 a2 r23) fun r33 =>
    bnd1 ((
      bnd1 ((
        if r33 < x4 then
          (some 0)
        else
          (if r33 = x4 then
            (if r23 < 0 then
              (some 1)
            else
              (if x3 ≤ r23 then
                (some 1)
              else
                (some 0)))
          else
            (some 1))) : Option (Nat)) fun t42b =>
      if t42b = 0 then
        (some (r23, r33))
      else
      (some (x3, x4))) : Option (Int32 × Int32)) fun s42 =>
    q2 s42 fun y42_3 y42_4 =>
    letv (x5 + 1) fun v70 =>
    rec y42_3 y42_4 v70)
def L_St_bestAfter_l14 (N : Nat) (a1 : Int32) (a2 : Int32) (σ : Mem) : Nat → Int32 → Int32 → Int32 → Option (Int32)
  | 0, _, _, _ => none
  | k + 1, x3, x4, x5 => B_St_bestAfter_l14 N a1 a2 σ (L_St_bestAfter_l14 N a1 a2 σ k) x3 x4 x5
set_option maxHeartbeats 4000000 in
set_option maxRecDepth 20000 in
theorem cL_St_bestAfter_l14 (Z : ZX) {Y : YX} {post : Option Value → Mem → Prop} {N : Nat} {a1 : Int32} {a2 : Int32} {σ : Mem} {Good : Int32 → Prop} (hR : ∀ (v : Int32), Good v → post (some (.int v)) σ) : ∀ (k : Nat) (x3 : Int32) (x4 : Int32) (x5 : Int32) (res : Int32), L_St_bestAfter_l14 N a1 a2 σ k x3 x4 x5 = some res → Good res → V (mkB Z) Y m_St_bestAfter 2 (QP (mkB Z) Y nC 0 0 post) 0 0 nC σ 14 [(0, rf Z 41), (1, .int a1), (2, .int a2), (3, .int x3), (4, .int x4), (5, .int x5)] [] := by
  intro k
  induction k with
  | zero => intro x3 x4 x5 res h; cases h
  | succ k ih =>
    intro x3 x4 x5 res h hg
    replace h : B_St_bestAfter_l14 N a1 a2 σ (L_St_bestAfter_l14 N a1 a2 σ k) x3 x4 x5 = some res := h
    unfold B_St_bestAfter_l14 at h
    refine V.iload d_St_bestAfter_14 5 rfl ?_
    refine V.iconst (v := 4) d_St_bestAfter_16 (by decide) ?_
    refine V.icmp_ge (tgt := 76) d_St_bestAfter_17 (by decide) (fun hc17 => ?_) (fun hc17 => ?_)
    · replace h := ite_t hc17 h
      refine V.iload_n d_St_bestAfter_76 rfl 3 rfl ?_
      cases h
      exact V.iret rfl d_St_bestAfter_77 (hR _ hg)
    · replace h := ite_f hc17 h
      refine V.iload_n d_St_bestAfter_20 rfl 2 rfl ?_
      refine V.iload d_St_bestAfter_21 5 rfl ?_
      obtain ⟨r23, h1, h⟩ := bnd1_e h
      refine V.tI (as := [.int a2, .int x5]) (st := []) (c_Sh_beside Z h1) k_Sh_beside ln_St_51 (by decide) rfl rfl (Nat.le_of_ble_eq_true rfl) d_St_bestAfter_23 ?_
      refine V.istore (lv' := [(6, .int r23), (0, rf Z 41), (1, .int a1), (2, .int a2), (3, .int x3), (4, .int x4), (5, .int x5)]) d_St_bestAfter_26 (by decide) rfl ?_
      refine V.aload_n d_St_bestAfter_28 rfl 1 rfl ?_
      refine V.iload_n d_St_bestAfter_29 rfl 2 rfl ?_
      refine V.iload_n d_St_bestAfter_30 rfl 3 rfl ?_
      refine V.iload d_St_bestAfter_31 0 rfl ?_
      obtain ⟨r33, h1, h⟩ := bnd1_e h
      refine V.vI (as := [.int a1, .int a2, .int r23]) (st := []) (c_St_costAfter Z h1) k_St_costAfter lk_St_44 (by decide) rfl (by decide) ly_41 ok_St.1 rfl (Nat.le_of_ble_eq_true rfl) d_St_bestAfter_33 ?_
      refine V.istore (lv' := [(7, .int r33), (6, .int r23), (0, rf Z 41), (1, .int a1), (2, .int a2), (3, .int x3), (4, .int x4), (5, .int x5)]) d_St_bestAfter_36 (by decide) rfl ?_
      refine V.iload d_St_bestAfter_38 0 rfl ?_
      refine V.iload d_St_bestAfter_40 6 rfl ?_
      obtain ⟨s42, h1, h⟩ := bnd1_e h
      have J42_70 : ∀ (y42_3 : Int32) (y42_4 : Int32), s42 = (y42_3, y42_4) → V (mkB Z) Y m_St_bestAfter 2 (QP (mkB Z) Y nC 0 0 post) 0 0 nC σ 70 [(0, rf Z 41), (1, .int a1), (2, .int a2), (3, .int y42_3), (4, .int y42_4), (5, .int x5)] [] := by
        intro y42_3 y42_4 he
        rw [he] at h
        replace h := q2_e h
        obtain ⟨v70, e_v70, h⟩ := letv_e h
        refine V.iinc (v := v70) (lv' := [(5, .int v70), (0, rf Z 41), (1, .int a1), (2, .int a2), (3, .int y42_3), (4, .int y42_4)]) d_St_bestAfter_70 5 rfl (by rw [e_v70]; rfl) (by decide) rfl ?_
        refine V.goto (tgt := 14) d_St_bestAfter_73 (by decide) ?_
        exact V.pick [1, 2, 3, 4, 5, 0] rfl (ih _ _ _ _ h hg)
      replace h := h1
      obtain ⟨s42b, h1, h⟩ := bnd1_e h
      have J42b_63 : s42b = 0 → V (mkB Z) Y m_St_bestAfter 2 (QP (mkB Z) Y nC 0 0 post) 0 0 nC σ 63 [(0, rf Z 41), (1, .int a1), (2, .int a2), (5, .int x5), (6, .int r23), (7, .int r33)] [] := by
        intro he
        rw [he] at h
        replace h := ite_t rfl h
        refine V.iload d_St_bestAfter_63 5 rfl ?_
        refine V.istore (lv' := [(4, .int r33), (0, rf Z 41), (1, .int a1), (2, .int a2), (5, .int x5), (6, .int r23), (7, .int r33)]) d_St_bestAfter_65 (by decide) rfl ?_
        refine V.iload d_St_bestAfter_67 5 rfl ?_
        refine V.istore_n (lv' := [(3, .int r23), (4, .int r33), (0, rf Z 41), (1, .int a1), (2, .int a2), (5, .int x5), (6, .int r23), (7, .int r33)]) d_St_bestAfter_69 rfl (by decide) rfl ?_
        exact V.pick [2, 3, 4, 0, 1, 5] rfl (J42_70 _ _ (Option.some.inj h).symm)
      have J42b_70 : s42b = 1 → V (mkB Z) Y m_St_bestAfter 2 (QP (mkB Z) Y nC 0 0 post) 0 0 nC σ 70 [(0, rf Z 41), (1, .int a1), (2, .int a2), (3, .int x3), (4, .int x4), (5, .int x5)] [] := by
        intro he
        rw [he] at h
        replace h := ite_f (by decide) h
        exact V.pick [0, 1, 2, 3, 4, 5] rfl (J42_70 _ _ (Option.some.inj h).symm)
      replace h := h1
      refine V.icmp_lt (tgt := 63) d_St_bestAfter_42 (by decide) (fun hc42 => ?_) (fun hc42 => ?_)
      · replace h := ite_t hc42 h
        exact V.pick [2, 3, 4, 7, 1, 0] rfl (J42b_63 (Option.some.inj h).symm)
      · replace h := ite_f hc42 h
        refine V.iload d_St_bestAfter_45 0 rfl ?_
        refine V.iload d_St_bestAfter_47 6 rfl ?_
        refine V.icmp_ne (tgt := 70) d_St_bestAfter_49 (by decide) (fun hc49 => ?_) (fun hc49 => ?_)
        · replace h := ite_f hc49 h
          exact V.pick [2, 3, 4, 5, 6, 7] rfl (J42b_70 (Option.some.inj h).symm)
        · replace h := ite_t hc49 h
          refine V.iload d_St_bestAfter_52 1 rfl ?_
          refine V.if_lt (tgt := 70) d_St_bestAfter_54 (by decide) (fun hc54 => ?_) (fun hc54 => ?_)
          · replace h := ite_t hc54 h
            exact V.pick [2, 3, 4, 5, 6, 7] rfl (J42b_70 (Option.some.inj h).symm)
          · replace h := ite_f hc54 h
            refine V.iload d_St_bestAfter_57 1 rfl ?_
            refine V.iload_n d_St_bestAfter_59 rfl 5 rfl ?_
            refine V.icmp_ge (tgt := 70) d_St_bestAfter_60 (by decide) (fun hc60 => ?_) (fun hc60 => ?_)
            · replace h := ite_t hc60 h
              exact V.pick [2, 3, 4, 5, 6, 7] rfl (J42b_70 (Option.some.inj h).symm)
            · replace h := ite_f hc60 h
              exact V.pick [2, 3, 4, 7, 1, 0] rfl (J42b_63 (Option.some.inj h).symm)
def f_St_bestAfter (N : Nat) (σ : Mem) (a1 : Int32) (a2 : Int32) : Option (Int32) :=
  bnd1 (f_St_costAfter σ a1 a2 a2) fun r6 =>
  L_St_bestAfter_l14 N a1 a2 σ N a2 r6 0
set_option maxHeartbeats 4000000 in
set_option maxRecDepth 20000 in
theorem c_St_bestAfter (Z : ZX) {N : Nat} {σ : Mem} {a1 : Int32} {a2 : Int32} {r : Int32} (h : f_St_bestAfter N σ a1 a2 = some r) : CI Z 2 m_St_bestAfter [rf Z 41, .int a1, .int a2] σ r σ := by
  refine Ct.of (by decide +kernel) (Nat.le_of_ble_eq_true rfl) (fun Y => ?_)
  show V (mkB Z) Y m_St_bestAfter 2 (QP (mkB Z) Y nC 0 0 (fun v t => v = some (.int r) ∧ t = σ)) 0 0 nC σ 0 [(0, rf Z 41), (1, .int a1), (2, .int a2)] []
  unfold f_St_bestAfter at h
  refine V.iload_n d_St_bestAfter_0 rfl 2 rfl ?_
  refine V.istore_n (lv' := [(3, .int a2), (0, rf Z 41), (1, .int a1), (2, .int a2)]) d_St_bestAfter_1 rfl (by decide) rfl ?_
  refine V.aload_n d_St_bestAfter_2 rfl 1 rfl ?_
  refine V.iload_n d_St_bestAfter_3 rfl 2 rfl ?_
  refine V.iload_n d_St_bestAfter_4 rfl 3 rfl ?_
  refine V.iload_n d_St_bestAfter_5 rfl 3 rfl ?_
  obtain ⟨r6, h1, h⟩ := bnd1_e h
  refine V.vI (as := [.int a1, .int a2, .int a2]) (st := []) (c_St_costAfter Z h1) k_St_costAfter lk_St_44 (by decide) rfl (by decide) ly_41 ok_St.1 rfl (Nat.le_of_ble_eq_true rfl) d_St_bestAfter_6 ?_
  refine V.istore (lv' := [(4, .int r6), (3, .int a2), (0, rf Z 41), (1, .int a1), (2, .int a2)]) d_St_bestAfter_9 (by decide) rfl ?_
  refine V.iconst (v := 0) d_St_bestAfter_11 (by decide) ?_
  refine V.istore (lv' := [(5, .int 0), (4, .int r6), (3, .int a2), (0, rf Z 41), (1, .int a1), (2, .int a2)]) d_St_bestAfter_12 (by decide) rfl ?_
  refine V.pick [3, 4, 5, 2, 1, 0] rfl (cL_St_bestAfter_l14 Z (Good := fun z => z = _) (fun r14v he => ?_) N _ _ _ _ h rfl)
  · cases he
    exact ⟨rfl, rfl⟩
