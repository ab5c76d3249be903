def f_JL_indexOf_4cfef_s3 (N : Nat) (a1 : Int32) (a2 : Int32) (a3 : Int32) : Option (Int32) :=
  bnd1 (f_JL_canEncode_9a6ad a1) fun r1 =>
  if r1 = 0 then
    (some (-1))
  else
    (bnd1 (f_JM_max_7cf53 a2 0) fun r11 =>
    bnd1 (f_JM_min_7cf53 a3 3) fun r18 =>
    if r11 < r18 then
      (bnd1 (f_JL_indexOfChar_4cfef_s3 N a1 r11 r18) fun r33 =>
      some r33)
    else
      (some (-1)))
set_option maxHeartbeats 4000000 in
set_option maxRecDepth 20000 in
theorem c_JL_indexOf_4cfef_s3 (Z : ZX) {N : Nat} {σ : Mem} {a1 : Int32} {a2 : Int32} {a3 : Int32} {r : Int32} (h : f_JL_indexOf_4cfef_s3 N a1 a2 a3 = some r) : CI Z 1 m_JL_indexOf_4cfef [.ref (bV (mkB Z) 3), .int a1, .int a2, .int a3] σ r σ := by
  refine Ct.of (by decide +kernel) (Nat.le_of_ble_eq_true rfl) (fun Y => ?_)
  show V (mkB Z) Y m_JL_indexOf_4cfef 1 (QP (mkB Z) Y nC 0 0 (fun v t => v = some (.int r) ∧ t = σ)) 0 0 nC σ 0 [(0, .ref (bV (mkB Z) 3)), (1, .int a1), (2, .int a2), (3, .int a3)] []
  unfold f_JL_indexOf_4cfef_s3 at h
  refine V.iload_n d_JL_indexOf_4cfef_0 rfl 1 rfl ?_
  obtain ⟨r1, h1, h⟩ := bnd1_e h
  refine V.sI (as := [.int a1]) (st := []) (c_JL_canEncode_9a6ad Z h1) k_JL_canEncode_9a6ad lk_JL_88 (by decide) rfl rfl (Nat.le_of_ble_eq_true rfl) d_JL_indexOf_4cfef_1 ?_
  refine V.if_ne (tgt := 9) d_JL_indexOf_4cfef_4 (by decide) (fun hc4 => ?_) (fun hc4 => ?_)
  · replace h := ite_f hc4 h
    refine V.iload_n d_JL_indexOf_4cfef_9 rfl 2 rfl ?_
    refine V.iconst (v := 0) d_JL_indexOf_4cfef_10 (by decide) ?_
    obtain ⟨r11, h1, h⟩ := bnd1_e h
    refine V.sI (as := [.int a2, .int 0]) (st := []) (c_JM_max_7cf53 Z h1) k_JM_max_7cf53 lk_JL_92 (by decide) rfl rfl (Nat.le_of_ble_eq_true rfl) d_JL_indexOf_4cfef_11 ?_
    refine V.istore_n (lv' := [(2, .int r11), (0, .ref (bV (mkB Z) 3)), (1, .int a1), (3, .int a3)]) d_JL_indexOf_4cfef_14 rfl (by decide) rfl ?_
    refine V.iload_n d_JL_indexOf_4cfef_15 rfl 3 rfl ?_
    refine V.aload_n d_JL_indexOf_4cfef_16 rfl 1 rfl ?_
    refine V.slen (x := 3) (by decide) (by decide) d_JL_indexOf_4cfef_17 ?_
    obtain ⟨r18, h1, h⟩ := bnd1_e h
    refine V.sI (as := [.int a3, .int 3]) (st := []) (c_JM_min_7cf53 Z h1) k_JM_min_7cf53 lk_JL_38 (by decide) rfl rfl (Nat.le_of_ble_eq_true rfl) d_JL_indexOf_4cfef_18 ?_
    refine V.istore_n (lv' := [(3, .int r18), (2, .int r11), (0, .ref (bV (mkB Z) 3)), (1, .int a1)]) d_JL_indexOf_4cfef_21 rfl (by decide) rfl ?_
    refine V.iload_n d_JL_indexOf_4cfef_22 rfl 1 rfl ?_
    refine V.iload_n d_JL_indexOf_4cfef_23 rfl 0 rfl ?_
    refine V.icmp_lt (tgt := 29) d_JL_indexOf_4cfef_24 (by decide) (fun hc24 => ?_) (fun hc24 => ?_)
    · replace h := ite_t hc24 h
      refine V.aload_n d_JL_indexOf_4cfef_29 rfl 2 rfl ?_
      refine V.iload_n d_JL_indexOf_4cfef_30 rfl 3 rfl ?_
      refine V.iload_n d_JL_indexOf_4cfef_31 rfl 1 rfl ?_
      refine V.iload_n d_JL_indexOf_4cfef_32 rfl 0 rfl ?_
      obtain ⟨r33, h1, h⟩ := bnd1_e h
      refine V.sI (as := [.ref (bV (mkB Z) 3), .int a1, .int r11, .int r18]) (st := []) (c_JL_indexOfChar_4cfef_s3 Z h1) k_JL_indexOfChar_4cfef lk_JL_95 (by decide) rfl rfl (Nat.le_of_ble_eq_true rfl) d_JL_indexOf_4cfef_33 ?_
      cases h
      exact V.iret rfl d_JL_indexOf_4cfef_36 ⟨rfl, rfl⟩
    · replace h := ite_f hc24 h
      refine V.iconst (v := (-1)) d_JL_indexOf_4cfef_27 (by decide) ?_
      cases h
      exact V.iret rfl d_JL_indexOf_4cfef_28 ⟨rfl, rfl⟩
  · replace h := ite_t hc4 h
    refine V.iconst (v := (-1)) d_JL_indexOf_4cfef_7 (by decide) ?_
    cases h
    exact V.iret rfl d_JL_indexOf_4cfef_8 ⟨rfl, rfl⟩
def f_JS_indexOf_7cf53_s3 (N : Nat) (a1 : Int32) (a2 : Int32) : Option (Int32) :=
  bnd1 (f_JS_isLatin1_aae02_s3) fun r1 =>
  grd (decide (¬ r1 = 0)) <|
  bnd1 (f_JS_length_8abf5_s3) fun r14 =>
  bnd1 (f_JL_indexOf_4cfef_s3 N a1 a2 r14) fun r17 =>
  some r17
set_option maxHeartbeats 4000000 in
set_option maxRecDepth 20000 in
theorem c_JS_indexOf_7cf53_s3 (Z : ZX) {N : Nat} {σ : Mem} {a1 : Int32} {a2 : Int32} {r : Int32} (h : f_JS_indexOf_7cf53_s3 N a1 a2 = some r) : CI Z 2 m_JS_indexOf_7cf53 [.ref (bK (mkB Z) 3), .int a1, .int a2] σ r σ := by
  refine Ct.of (by decide +kernel) (Nat.le_of_ble_eq_true rfl) (fun Y => ?_)
  show V (mkB Z) Y m_JS_indexOf_7cf53 2 (QP (mkB Z) Y nC 0 0 (fun v t => v = some (.int r) ∧ t = σ)) 0 0 nC σ 0 [(0, .ref (bK (mkB Z) 3)), (1, .int a1), (2, .int a2)] []
  unfold f_JS_indexOf_7cf53_s3 at h
  refine V.aload_n d_JS_indexOf_7cf53_0 rfl 0 rfl ?_
  obtain ⟨r1, h1, h⟩ := bnd1_e h
  refine V.uI (as := []) (st := []) (by decide) (c_JS_isLatin1_aae02_s3 Z h1) k_JS_isLatin1_aae02 rfl lk_JS_492 (by decide) rfl rfl (Nat.le_of_ble_eq_true rfl) d_JS_indexOf_7cf53_1 ?_
  obtain ⟨gq, h⟩ := grd_e h
  refine V.if_eq (tgt := 23) d_JS_indexOf_7cf53_4 (by decide) (fun hc => absurd hc (of_decide_eq_true gq)) (fun _ => ?_)
  refine V.aload_n d_JS_indexOf_7cf53_7 rfl 0 rfl ?_
  refine V.sval (by decide) sf_JS_9 d_JS_indexOf_7cf53_8 ?_
  refine V.iload_n d_JS_indexOf_7cf53_11 rfl 1 rfl ?_
  refine V.iload_n d_JS_indexOf_7cf53_12 rfl 2 rfl ?_
  refine V.aload_n d_JS_indexOf_7cf53_13 rfl 0 rfl ?_
  obtain ⟨r14, h1, h⟩ := bnd1_e h
  refine V.uI (as := []) (st := [.int a2, .int a1, .ref (bV (mkB Z) 3)]) (by decide) (c_JS_length_8abf5_s3 Z h1) k_JS_length_8abf5 rfl lk_JS_505 (by decide) rfl rfl (Nat.le_of_ble_eq_true rfl) d_JS_indexOf_7cf53_14 ?_
  obtain ⟨r17, h1, h⟩ := bnd1_e h
  refine V.sI (as := [.ref (bV (mkB Z) 3), .int a1, .int a2, .int r14]) (st := []) (c_JL_indexOf_4cfef_s3 Z h1) k_JL_indexOf_4cfef lk_JS_637 (by decide) rfl rfl (Nat.le_of_ble_eq_true rfl) d_JS_indexOf_7cf53_17 ?_
  refine V.goto (tgt := 36) d_JS_indexOf_7cf53_20 (by decide) ?_
  cases h
  exact V.iret rfl d_JS_indexOf_7cf53_36 ⟨rfl, rfl⟩
def f_JS_indexOf_0f7a4_s3 (N : Nat) (a1 : Int32) : Option (Int32) :=
  bnd1 (f_JS_indexOf_7cf53_s3 N a1 0) fun r3 =>
  some r3
set_option maxHeartbeats 4000000 in
set_option maxRecDepth 20000 in
theorem c_JS_indexOf_0f7a4_s3 (Z : ZX) {N : Nat} {σ : Mem} {a1 : Int32} {r : Int32} (h : f_JS_indexOf_0f7a4_s3 N a1 = some r) : CI Z 3 m_JS_indexOf_0f7a4 [.ref (bK (mkB Z) 3), .int a1] σ r σ := by
  refine Ct.of (by decide +kernel) (Nat.le_of_ble_eq_true rfl) (fun Y => ?_)
  show V (mkB Z) Y m_JS_indexOf_0f7a4 3 (QP (mkB Z) Y nC 0 0 (fun v t => v = some (.int r) ∧ t = σ)) 0 0 nC σ 0 [(0, .ref (bK (mkB Z) 3)), (1, .int a1)] []
  unfold f_JS_indexOf_0f7a4_s3 at h
  refine V.aload_n d_JS_indexOf_0f7a4_0 rfl 0 rfl ?_
  refine V.iload_n d_JS_indexOf_0f7a4_1 rfl 1 rfl ?_
  refine V.iconst (v := 0) d_JS_indexOf_0f7a4_2 (by decide) ?_
  obtain ⟨r3, h1, h⟩ := bnd1_e h
  refine V.uI (as := [.int a1, .int 0]) (st := []) (by decide) (c_JS_indexOf_7cf53_s3 Z h1) k_JS_indexOf_7cf53 rfl lk_JS_633 (by decide) rfl rfl (Nat.le_of_ble_eq_true rfl) d_JS_indexOf_0f7a4_3 ?_
  cases h
  exact V.iret rfl d_JS_indexOf_0f7a4_6 ⟨rfl, rfl⟩
def f_Rd_isOneOf_s3 (N : Nat) (σ : Mem) : Option (Int32) :=
  bnd1 (f_Rd_sign σ) fun r1 =>
  if r1 < 0 then
    (some 0)
  else
    (bnd1 (f_JS_indexOf_0f7a4_s3 N ((r1.toUInt32 % 65536).toInt32)) fun r12 =>
    if r12 < 0 then
      (some 0)
    else
      (some 1))
set_option maxHeartbeats 4000000 in
set_option maxRecDepth 20000 in
theorem c_Rd_isOneOf_s3 (Z : ZX) {N : Nat} {σ : Mem} {r : Int32} (h : f_Rd_isOneOf_s3 N σ = some r) : CI Z 4 m_Rd_isOneOf [rf Z 17, .ref (bK (mkB Z) 3)] σ r σ := by
  refine Ct.of (by decide +kernel) (Nat.le_of_ble_eq_true rfl) (fun Y => ?_)
  show V (mkB Z) Y m_Rd_isOneOf 4 (QP (mkB Z) Y nC 0 0 (fun v t => v = some (.int r) ∧ t = σ)) 0 0 nC σ 0 [(0, rf Z 17), (1, .ref (bK (mkB Z) 3))] []
  unfold f_Rd_isOneOf_s3 at h
  refine V.aload_n d_Rd_isOneOf_0 rfl 0 rfl ?_
  obtain ⟨r1, h1, h⟩ := bnd1_e h
  refine V.vI (as := []) (st := []) (c_Rd_sign Z h1) k_Rd_sign lk_Rd_58 (by decide) rfl (by decide) ly_17 ok_Rd.1 rfl (Nat.le_of_ble_eq_true rfl) d_Rd_isOneOf_1 ?_
  refine V.istore_n (lv' := [(2, .int r1), (0, rf Z 17), (1, .ref (bK (mkB Z) 3))]) d_Rd_isOneOf_4 rfl (by decide) rfl ?_
  refine V.iload_n d_Rd_isOneOf_5 rfl 0 rfl ?_
  refine V.if_lt (tgt := 22) d_Rd_isOneOf_6 (by decide) (fun hc6 => ?_) (fun hc6 => ?_)
  · replace h := ite_t hc6 h
    refine V.iconst (v := 0) d_Rd_isOneOf_22 (by decide) ?_
    cases h
    exact V.zret rfl rfl d_Rd_isOneOf_23 ⟨rfl, rfl⟩
  · replace h := ite_f hc6 h
    refine V.aload_n d_Rd_isOneOf_9 rfl 2 rfl ?_
    refine V.iload_n d_Rd_isOneOf_10 rfl 0 rfl ?_
    refine V.i2c d_Rd_isOneOf_11 ?_
    obtain ⟨r12, h1, h⟩ := bnd1_e h
    refine V.uI (as := [.int ((r1.toUInt32 % 65536).toInt32)]) (st := []) (by decide) (c_JS_indexOf_0f7a4_s3 Z h1) k_JS_indexOf_0f7a4 rfl lk_Rd_61 (by decide) rfl rfl (Nat.le_of_ble_eq_true rfl) d_Rd_isOneOf_12 ?_
    refine V.if_lt (tgt := 22) d_Rd_isOneOf_15 (by decide) (fun hc15 => ?_) (fun hc15 => ?_)
    · replace h := ite_t hc15 h
      refine V.iconst (v := 0) d_Rd_isOneOf_22 (by decide) ?_
      cases h
      exact V.zret rfl rfl d_Rd_isOneOf_23 ⟨rfl, rfl⟩
    · replace h := ite_f hc15 h
      refine V.iconst (v := 1) d_Rd_isOneOf_18 (by decide) ?_
      refine V.goto (tgt := 23) d_Rd_isOneOf_19 (by decide) ?_
      cases h
      exact V.zret rfl rfl d_Rd_isOneOf_23 ⟨rfl, rfl⟩
abbrev m_Rd_isDigit : MI := (⟨"ShadeTown$LawReader", "isDigit", "()Z"⟩, prog_5_method_16_code, 1, (Option.some Jvm.ClassFile.FieldType.boolean))
theorem d_Rd_isDigit_0 : decode prog_5_method_16_code 0 = .ok (.aload_n 0, 1) := by decide +kernel
theorem d_Rd_isDigit_1 : decode prog_5_method_16_code 1 = .ok (.invokevirtual 58, 3) := by decide +kernel
theorem d_Rd_isDigit_4 : decode prog_5_method_16_code 4 = .ok (.bipush 48, 2) := by decide +kernel
theorem d_Rd_isDigit_22 : decode prog_5_method_16_code 22 = .ok (.iconst 0, 1) := by decide +kernel
theorem d_Rd_isDigit_23 : decode prog_5_method_16_code 23 = .ok (.ireturn, 1) := by decide +kernel
theorem d_Rd_isDigit_9 : decode prog_5_method_16_code 9 = .ok (.aload_n 0, 1) := by decide +kernel
theorem d_Rd_isDigit_10 : decode prog_5_method_16_code 10 = .ok (.invokevirtual 58, 3) := by decide +kernel
theorem d_Rd_isDigit_13 : decode prog_5_method_16_code 13 = .ok (.bipush 57, 2) := by decide +kernel
theorem d_Rd_isDigit_18 : decode prog_5_method_16_code 18 = .ok (.iconst 1, 1) := by decide +kernel
theorem d_Rd_isDigit_19 : decode prog_5_method_16_code 19 = .ok (.goto 4, 3) := by decide +kernel
theorem d_Rd_isDigit_15 : decode prog_5_method_16_code 15 = .ok (.if_icmp .gt 7, 3) := by decide +kernel
theorem d_Rd_isDigit_6 : decode prog_5_method_16_code 6 = .ok (.if_icmp .lt 16, 3) := by decide +kernel
def f_Rd_isDigit (σ : Mem) : Option (Int32) :=
  bnd1 (f_Rd_sign σ) fun r1 =>
  if r1 < 48 then
    (some 0)
  else
    (bnd1 (f_Rd_sign σ) fun r10 =>
    if 57 < r10 then
      (some 0)
    else
      (some 1))
set_option maxHeartbeats 4000000 in
set_option maxRecDepth 20000 in
theorem c_Rd_isDigit (Z : ZX) {σ : Mem} {r : Int32} (h : f_Rd_isDigit σ = some r) : CI Z 1 m_Rd_isDigit [rf Z 17] σ r σ := by
  refine Ct.of (by decide +kernel) (Nat.le_of_ble_eq_true rfl) (fun Y => ?_)
  show V (mkB Z) Y m_Rd_isDigit 1 (QP (mkB Z) Y nC 0 0 (fun v t => v = some (.int r) ∧ t = σ)) 0 0 nC σ 0 [(0, rf Z 17)] []
  unfold f_Rd_isDigit at h
  refine V.aload_n d_Rd_isDigit_0 rfl 0 rfl ?_
  obtain ⟨r1, h1, h⟩ := bnd1_e h
  refine V.vI (as := []) (st := []) (c_Rd_sign Z h1) k_Rd_sign lk_Rd_58 (by decide) rfl (by decide) ly_17 ok_Rd.1 rfl (Nat.le_of_ble_eq_true rfl) d_Rd_isDigit_1 ?_
  refine V.bipush (v := 48) d_Rd_isDigit_4 (by decide) ?_
  refine V.icmp_lt (tgt := 22) d_Rd_isDigit_6 (by decide) (fun hc6 => ?_) (fun hc6 => ?_)
  · replace h := ite_t hc6 h
    refine V.iconst (v := 0) d_Rd_isDigit_22 (by decide) ?_
    cases h
    exact V.zret rfl rfl d_Rd_isDigit_23 ⟨rfl, rfl⟩
  · replace h := ite_f hc6 h
    refine V.aload_n d_Rd_isDigit_9 rfl 0 rfl ?_
    obtain ⟨r10, h1, h⟩ := bnd1_e h
    refine V.vI (as := []) (st := []) (c_Rd_sign Z h1) k_Rd_sign lk_Rd_58 (by decide) rfl (by decide) ly_17 ok_Rd.1 rfl (Nat.le_of_ble_eq_true rfl) d_Rd_isDigit_10 ?_
    refine V.bipush (v := 57) d_Rd_isDigit_13 (by decide) ?_
    refine V.icmp_gt (tgt := 22) d_Rd_isDigit_15 (by decide) (fun hc15 => ?_) (fun hc15 => ?_)
    · replace h := ite_t hc15 h
      refine V.iconst (v := 0) d_Rd_isDigit_22 (by decide) ?_
      cases h
      exact V.zret rfl rfl d_Rd_isDigit_23 ⟨rfl, rfl⟩
    · replace h := ite_f hc15 h
      refine V.iconst (v := 1) d_Rd_isDigit_18 (by decide) ?_
      refine V.goto (tgt := 23) d_Rd_isDigit_19 (by decide) ?_
      cases h
      exact V.zret rfl rfl d_Rd_isDigit_23 ⟨rfl, rfl⟩
def f_JS_isLatin1_aae02_s4 : Option (Int32) :=
  if (1 : Int32) = 0 then
    (some 0)
  else
    (if (0 : Int32) = 0 then
      (some 1)
    else
      (some 0))
set_option maxHeartbeats 4000000 in
set_option maxRecDepth 20000 in
theorem c_JS_isLatin1_aae02_s4 (Z : ZX) {σ : Mem} {r : Int32} (h : f_JS_isLatin1_aae02_s4 = some r) : CI Z 0 m_JS_isLatin1_aae02 [.ref (bK (mkB Z) 4)] σ r σ := by
  refine Ct.of (by decide +kernel) (Nat.le_of_ble_eq_true rfl) (fun Y => ?_)
  show V (mkB Z) Y m_JS_isLatin1_aae02 0 (QP (mkB Z) Y nC 0 0 (fun v t => v = some (.int r) ∧ t = σ)) 0 0 nC σ 0 [(0, .ref (bK (mkB Z) 4))] []
  unfold f_JS_isLatin1_aae02_s4 at h
  refine V.gcs sf_JS_38 d_JS_isLatin1_aae02_0 ?_
  refine V.if_eq (tgt := 17) d_JS_isLatin1_aae02_3 (by decide) (fun hc3 => ?_) (fun hc3 => ?_)
  · replace h := ite_t hc3 h
    refine V.iconst (v := 0) d_JS_isLatin1_aae02_17 (by decide) ?_
    cases h
    exact V.zret rfl rfl d_JS_isLatin1_aae02_18 ⟨rfl, rfl⟩
  · replace h := ite_f hc3 h
    refine V.aload_n d_JS_isLatin1_aae02_6 rfl 0 rfl ?_
    refine V.scod (by decide) sf_JS_15 d_JS_isLatin1_aae02_7 ?_
    refine V.if_ne (tgt := 17) d_JS_isLatin1_aae02_10 (by decide) (fun hc10 => ?_) (fun hc10 => ?_)
    · replace h := ite_f hc10 h
      refine V.iconst (v := 0) d_JS_isLatin1_aae02_17 (by decide) ?_
      cases h
      exact V.zret rfl rfl d_JS_isLatin1_aae02_18 ⟨rfl, rfl⟩
    · replace h := ite_t hc10 h
      refine V.iconst (v := 1) d_JS_isLatin1_aae02_13 (by decide) ?_
      refine V.goto (tgt := 18) d_JS_isLatin1_aae02_14 (by decide) ?_
      cases h
      exact V.zret rfl rfl d_JS_isLatin1_aae02_18 ⟨rfl, rfl⟩
def f_JS_coder_7d493_s4 : Option (Int32) :=
  if (1 : Int32) = 0 then
    (some 1)
  else
    (some 0)
set_option maxHeartbeats 4000000 in
set_option maxRecDepth 20000 in
theorem c_JS_coder_7d493_s4 (Z : ZX) {σ : Mem} {r : Int32} (h : f_JS_coder_7d493_s4 = some r) : CI Z 0 m_JS_coder_7d493 [.ref (bK (mkB Z) 4)] σ r σ := by
  refine Ct.of (by decide +kernel) (Nat.le_of_ble_eq_true rfl) (fun Y => ?_)
  show V (mkB Z) Y m_JS_coder_7d493 0 (QP (mkB Z) Y nC 0 0 (fun v t => v = some (.int r) ∧ t = σ)) 0 0 nC σ 0 [(0, .ref (bK (mkB Z) 4))] []
  unfold f_JS_coder_7d493_s4 at h
  refine V.gcs sf_JS_38 d_JS_coder_7d493_0 ?_
  refine V.if_eq (tgt := 13) d_JS_coder_7d493_3 (by decide) (fun hc3 => ?_) (fun hc3 => ?_)
  · replace h := ite_t hc3 h
    refine V.iconst (v := 1) d_JS_coder_7d493_13 (by decide) ?_
    cases h
    exact V.zret rfl rfl d_JS_coder_7d493_14 ⟨rfl, rfl⟩
  · replace h := ite_f hc3 h
    refine V.aload_n d_JS_coder_7d493_6 rfl 0 rfl ?_
    refine V.scod (by decide) sf_JS_15 d_JS_coder_7d493_7 ?_
    refine V.goto (tgt := 14) d_JS_coder_7d493_10 (by decide) ?_
    cases h
    exact V.zret rfl rfl d_JS_coder_7d493_14 ⟨rfl, rfl⟩
def f_JS_length_8abf5_s4 : Option (Int32) :=
  bnd1 (f_JS_coder_7d493_s4) fun r6 =>
  some (9 >>> (r6 &&& 31))
set_option maxHeartbeats 4000000 in
set_option maxRecDepth 20000 in
theorem c_JS_length_8abf5_s4 (Z : ZX) {σ : Mem} {r : Int32} (h : f_JS_length_8abf5_s4 = some r) : CI Z 1 m_JS_length_8abf5 [.ref (bK (mkB Z) 4)] σ r σ := by
  refine Ct.of (by decide +kernel) (Nat.le_of_ble_eq_true rfl) (fun Y => ?_)
  show V (mkB Z) Y m_JS_length_8abf5 1 (QP (mkB Z) Y nC 0 0 (fun v t => v = some (.int r) ∧ t = σ)) 0 0 nC σ 0 [(0, .ref (bK (mkB Z) 4))] []
  unfold f_JS_length_8abf5_s4 at h
  refine V.aload_n d_JS_length_8abf5_0 rfl 0 rfl ?_
  refine V.sval (by decide) sf_JS_9 d_JS_length_8abf5_1 ?_
  refine V.slen (x := 9) (by decide) (by decide) d_JS_length_8abf5_4 ?_
  refine V.aload_n d_JS_length_8abf5_5 rfl 0 rfl ?_
  obtain ⟨r6, h1, h⟩ := bnd1_e h
  refine V.uI (as := []) (st := [.int 9]) (by decide) (c_JS_coder_7d493_s4 Z h1) k_JS_coder_7d493 rfl lk_JS_335 (by decide) rfl rfl (Nat.le_of_ble_eq_true rfl) d_JS_length_8abf5_6 ?_
  refine V.ishr d_JS_length_8abf5_9 ?_
  cases h
  exact V.iret rfl d_JS_length_8abf5_10 ⟨rfl, rfl⟩
def B_JL_indexOfChar_4cfef_s4_l7 (N : Nat) (a3 : Int32) (a4 : Int32) (rec : Int32 → Option (Int32)) (x5 : Int32) : Option (Int32) :=
  if a3 ≤ x5 then
    (some (-1))
  else
    (grd (inb x5 9) <|
    if (stb 4 (x5.toNatClampNeg)) = a4 then
      (some x5)
    else
      (letv (x5 + 1) fun v25 =>
      rec v25))
def L_JL_indexOfChar_4cfef_s4_l7 (N : Nat) (a3 : Int32) (a4 : Int32) : Nat → Int32 → Option (Int32)
  | 0, _ => none
  | k + 1, x5 => B_JL_indexOfChar_4cfef_s4_l7 N a3 a4 (L_JL_indexOfChar_4cfef_s4_l7 N a3 a4 k) x5
set_option maxHeartbeats 4000000 in
set_option maxRecDepth 20000 in
theorem cL_JL_indexOfChar_4cfef_s4_l7 (Z : ZX) {Y : YX} {post : Option Value → Mem → Prop} {N : Nat} {a3 : Int32} {a4 : Int32} {σ : Mem} {Good : Int32 → Prop} (hR : ∀ (v : Int32), Good v → post (some (.int v)) σ) : ∀ (k : Nat) (x5 : Int32) (res : Int32), L_JL_indexOfChar_4cfef_s4_l7 N a3 a4 k x5 = some res → Good res → V (mkB Z) Y m_JL_indexOfChar_4cfef 0 (QP (mkB Z) Y nC 0 0 post) 0 0 nC σ 7 [(0, .ref (bV (mkB Z) 4)), (3, .int a3), (4, .int a4), (5, .int x5)] [] := by
  intro k
  induction k with
  | zero => intro x5 res h; cases h
  | succ k ih =>
    intro x5 res h hg
    replace h : B_JL_indexOfChar_4cfef_s4_l7 N a3 a4 (L_JL_indexOfChar_4cfef_s4_l7 N a3 a4 k) x5 = some res := h
    unfold B_JL_indexOfChar_4cfef_s4_l7 at h
    refine V.iload d_JL_indexOfChar_4cfef_7 3 rfl ?_
    refine V.iload_n d_JL_indexOfChar_4cfef_9 rfl 1 rfl ?_
    refine V.icmp_ge (tgt := 31) d_JL_indexOfChar_4cfef_10 (by decide) (fun hc10 => ?_) (fun hc10 => ?_)
    · replace h := ite_t hc10 h
      refine V.iconst (v := (-1)) d_JL_indexOfChar_4cfef_31 (by decide) ?_
      cases h
      exact V.iret rfl d_JL_indexOfChar_4cfef_32 (hR _ hg)
    · replace h := ite_f hc10 h
      refine V.aload_n d_JL_indexOfChar_4cfef_13 rfl 0 rfl ?_
      refine V.iload d_JL_indexOfChar_4cfef_14 3 rfl ?_
      obtain ⟨gq, h⟩ := grd_e h
      refine V.sld (by decide) (inb_e gq) rfl d_JL_indexOfChar_4cfef_16 ?_
      refine V.iload d_JL_indexOfChar_4cfef_17 2 rfl ?_
      refine V.icmp_ne (tgt := 25) d_JL_indexOfChar_4cfef_19 (by decide) (fun hc19 => ?_) (fun hc19 => ?_)
      · replace h := ite_f hc19 h
        obtain ⟨v25, e_v25, h⟩ := letv_e h
        refine V.iinc (v := v25) (lv' := [(5, .int v25), (0, .ref (bV (mkB Z) 4)), (3, .int a3), (4, .int a4)]) d_JL_indexOfChar_4cfef_25 3 rfl (by rw [e_v25]; rfl) (by decide) rfl ?_
        refine V.goto (tgt := 7) d_JL_indexOfChar_4cfef_28 (by decide) ?_
        exact V.pick [1, 2, 3, 0] rfl (ih _ _ h hg)
      · replace h := ite_t hc19 h
        refine V.iload d_JL_indexOfChar_4cfef_22 3 rfl ?_
        cases h
        exact V.iret rfl d_JL_indexOfChar_4cfef_24 (hR _ hg)
def f_JL_indexOfChar_4cfef_s4 (N : Nat) (a1 : Int32) (a2 : Int32) (a3 : Int32) : Option (Int32) :=
  letv (a1.toInt8.toInt32) fun v2 =>
  L_JL_indexOfChar_4cfef_s4_l7 N a3 v2 N a2
set_option maxHeartbeats 4000000 in
set_option maxRecDepth 20000 in
theorem c_JL_indexOfChar_4cfef_s4 (Z : ZX) {N : Nat} {σ : Mem} {a1 : Int32} {a2 : Int32} {a3 : Int32} {r : Int32} (h : f_JL_indexOfChar_4cfef_s4 N a1 a2 a3 = some r) : CI Z 0 m_JL_indexOfChar_4cfef [.ref (bV (mkB Z) 4), .int a1, .int a2, .int a3] σ r σ := by
  refine Ct.of (by decide +kernel) (Nat.le_of_ble_eq_true rfl) (fun Y => ?_)
  show V (mkB Z) Y m_JL_indexOfChar_4cfef 0 (QP (mkB Z) Y nC 0 0 (fun v t => v = some (.int r) ∧ t = σ)) 0 0 nC σ 0 [(0, .ref (bV (mkB Z) 4)), (1, .int a1), (2, .int a2), (3, .int a3)] []
  unfold f_JL_indexOfChar_4cfef_s4 at h
  refine V.iload_n d_JL_indexOfChar_4cfef_0 rfl 1 rfl ?_
  refine V.i2b d_JL_indexOfChar_4cfef_1 ?_
  obtain ⟨v2, e_v2, h⟩ := letv_e h
  refine V.topI e_v2 ?_
  refine V.istore (lv' := [(4, .int v2), (0, .ref (bV (mkB Z) 4)), (1, .int a1), (2, .int a2), (3, .int a3)]) d_JL_indexOfChar_4cfef_2 (by decide) rfl ?_
  refine V.iload_n d_JL_indexOfChar_4cfef_4 rfl 3 rfl ?_
  refine V.istore (lv' := [(5, .int a2), (4, .int v2), (0, .ref (bV (mkB Z) 4)), (1, .int a1), (2, .int a2), (3, .int a3)]) d_JL_indexOfChar_4cfef_5 (by decide) rfl ?_
  refine V.pick [2, 5, 1, 0] rfl (cL_JL_indexOfChar_4cfef_s4_l7 Z (Good := fun z => z = _) (fun r7v he => ?_) N _ _ h rfl)
  · cases he
    exact ⟨rfl, rfl⟩
def f_JL_indexOf_4cfef_s4 (N : Nat) (a1 : Int32) (a2 : Int32) (a3 : Int32) : Option (Int32) :=
  bnd1 (f_JL_canEncode_9a6ad a1) fun r1 =>
  if r1 = 0 then
    (some (-1))
  else
    (bnd1 (f_JM_max_7cf53 a2 0) fun r11 =>
    bnd1 (f_JM_min_7cf53 a3 9) fun r18 =>
    if r11 < r18 then
      (bnd1 (f_JL_indexOfChar_4cfef_s4 N a1 r11 r18) fun r33 =>
      some r33)
    else
      (some (-1)))
set_option maxHeartbeats 4000000 in
set_option maxRecDepth 20000 in
theorem c_JL_indexOf_4cfef_s4 (Z : ZX) {N : Nat} {σ : Mem} {a1 : Int32} {a2 : Int32} {a3 : Int32} {r : Int32} (h : f_JL_indexOf_4cfef_s4 N a1 a2 a3 = some r) : CI Z 1 m_JL_indexOf_4cfef [.ref (bV (mkB Z) 4), .int a1, .int a2, .int a3] σ r σ := by
  refine Ct.of (by decide +kernel) (Nat.le_of_ble_eq_true rfl) (fun Y => ?_)
  show V (mkB Z) Y m_JL_indexOf_4cfef 1 (QP (mkB Z) Y nC 0 0 (fun v t => v = some (.int r) ∧ t = σ)) 0 0 nC σ 0 [(0, .ref (bV (mkB Z) 4)), (1, .int a1), (2, .int a2), (3, .int a3)] []
  unfold f_JL_indexOf_4cfef_s4 at h
  refine V.iload_n d_JL_indexOf_4cfef_0 rfl 1 rfl ?_
  obtain ⟨r1, h1, h⟩ := bnd1_e h
  refine V.sI (as := [.int a1]) (st := []) (c_JL_canEncode_9a6ad Z h1) k_JL_canEncode_9a6ad lk_JL_88 (by decide) rfl rfl (Nat.le_of_ble_eq_true rfl) d_JL_indexOf_4cfef_1 ?_
  refine V.if_ne (tgt := 9) d_JL_indexOf_4cfef_4 (by decide) (fun hc4 => ?_) (fun hc4 => ?_)
  · replace h := ite_f hc4 h
    refine V.iload_n d_JL_indexOf_4cfef_9 rfl 2 rfl ?_
    refine V.iconst (v := 0) d_JL_indexOf_4cfef_10 (by decide) ?_
    obtain ⟨r11, h1, h⟩ := bnd1_e h
    refine V.sI (as := [.int a2, .int 0]) (st := []) (c_JM_max_7cf53 Z h1) k_JM_max_7cf53 lk_JL_92 (by decide) rfl rfl (Nat.le_of_ble_eq_true rfl) d_JL_indexOf_4cfef_11 ?_
    refine V.istore_n (lv' := [(2, .int r11), (0, .ref (bV (mkB Z) 4)), (1, .int a1), (3, .int a3)]) d_JL_indexOf_4cfef_14 rfl (by decide) rfl ?_
    refine V.iload_n d_JL_indexOf_4cfef_15 rfl 3 rfl ?_
    refine V.aload_n d_JL_indexOf_4cfef_16 rfl 1 rfl ?_
    refine V.slen (x := 9) (by decide) (by decide) d_JL_indexOf_4cfef_17 ?_
    obtain ⟨r18, h1, h⟩ := bnd1_e h
    refine V.sI (as := [.int a3, .int 9]) (st := []) (c_JM_min_7cf53 Z h1) k_JM_min_7cf53 lk_JL_38 (by decide) rfl rfl (Nat.le_of_ble_eq_true rfl) d_JL_indexOf_4cfef_18 ?_
    refine V.istore_n (lv' := [(3, .int r18), (2, .int r11), (0, .ref (bV (mkB Z) 4)), (1, .int a1)]) d_JL_indexOf_4cfef_21 rfl (by decide) rfl ?_
    refine V.iload_n d_JL_indexOf_4cfef_22 rfl 1 rfl ?_
    refine V.iload_n d_JL_indexOf_4cfef_23 rfl 0 rfl ?_
    refine V.icmp_lt (tgt := 29) d_JL_indexOf_4cfef_24 (by decide) (fun hc24 => ?_) (fun hc24 => ?_)
    · replace h := ite_t hc24 h
      refine V.aload_n d_JL_indexOf_4cfef_29 rfl 2 rfl ?_
      refine V.iload_n d_JL_indexOf_4cfef_30 rfl 3 rfl ?_
      refine V.iload_n d_JL_indexOf_4cfef_31 rfl 1 rfl ?_
      refine V.iload_n d_JL_indexOf_4cfef_32 rfl 0 rfl ?_
      obtain ⟨r33, h1, h⟩ := bnd1_e h
      refine V.sI (as := [.ref (bV (mkB Z) 4), .int a1, .int r11, .int r18]) (st := []) (c_JL_indexOfChar_4cfef_s4 Z h1) k_JL_indexOfChar_4cfef lk_JL_95 (by decide) rfl rfl (Nat.le_of_ble_eq_true rfl) d_JL_indexOf_4cfef_33 ?_
      cases h
      exact V.iret rfl d_JL_indexOf_4cfef_36 ⟨rfl, rfl⟩
    · replace h := ite_f hc24 h
      refine V.iconst (v := (-1)) d_JL_indexOf_4cfef_27 (by decide) ?_
      cases h
      exact V.iret rfl d_JL_indexOf_4cfef_28 ⟨rfl, rfl⟩
  · replace h := ite_t hc4 h
    refine V.iconst (v := (-1)) d_JL_indexOf_4cfef_7 (by decide) ?_
    cases h
    exact V.iret rfl d_JL_indexOf_4cfef_8 ⟨rfl, rfl⟩
def f_JS_indexOf_7cf53_s4 (N : Nat) (a1 : Int32) (a2 : Int32) : Option (Int32) :=
  bnd1 (f_JS_isLatin1_aae02_s4) fun r1 =>
  grd (decide (¬ r1 = 0)) <|
  bnd1 (f_JS_length_8abf5_s4) fun r14 =>
  bnd1 (f_JL_indexOf_4cfef_s4 N a1 a2 r14) fun r17 =>
  some r17
set_option maxHeartbeats 4000000 in
set_option maxRecDepth 20000 in
theorem c_JS_indexOf_7cf53_s4 (Z : ZX) {N : Nat} {σ : Mem} {a1 : Int32} {a2 : Int32} {r : Int32} (h : f_JS_indexOf_7cf53_s4 N a1 a2 = some r) : CI Z 2 m_JS_indexOf_7cf53 [.ref (bK (mkB Z) 4), .int a1, .int a2] σ r σ := by
  refine Ct.of (by decide +kernel) (Nat.le_of_ble_eq_true rfl) (fun Y => ?_)
  show V (mkB Z) Y m_JS_indexOf_7cf53 2 (QP (mkB Z) Y nC 0 0 (fun v t => v = some (.int r) ∧ t = σ)) 0 0 nC σ 0 [(0, .ref (bK (mkB Z) 4)), (1, .int a1), (2, .int a2)] []
  unfold f_JS_indexOf_7cf53_s4 at h
  refine V.aload_n d_JS_indexOf_7cf53_0 rfl 0 rfl ?_
  obtain ⟨r1, h1, h⟩ := bnd1_e h
  refine V.uI (as := []) (st := []) (by decide) (c_JS_isLatin1_aae02_s4 Z h1) k_JS_isLatin1_aae02 rfl lk_JS_492 (by decide) rfl rfl (Nat.le_of_ble_eq_true rfl) d_JS_indexOf_7cf53_1 ?_
  obtain ⟨gq, h⟩ := grd_e h
  refine V.if_eq (tgt := 23) d_JS_indexOf_7cf53_4 (by decide) (fun hc => absurd hc (of_decide_eq_true gq)) (fun _ => ?_)
  refine V.aload_n d_JS_indexOf_7cf53_7 rfl 0 rfl ?_
  refine V.sval (by decide) sf_JS_9 d_JS_indexOf_7cf53_8 ?_
  refine V.iload_n d_JS_indexOf_7cf53_11 rfl 1 rfl ?_
  refine V.iload_n d_JS_indexOf_7cf53_12 rfl 2 rfl ?_
  refine V.aload_n d_JS_indexOf_7cf53_13 rfl 0 rfl ?_
  obtain ⟨r14, h1, h⟩ := bnd1_e h
  refine V.uI (as := []) (st := [.int a2, .int a1, .ref (bV (mkB Z) 4)]) (by decide) (c_JS_length_8abf5_s4 Z h1) k_JS_length_8abf5 rfl lk_JS_505 (by decide) rfl rfl (Nat.le_of_ble_eq_true rfl) d_JS_indexOf_7cf53_14 ?_
  obtain ⟨r17, h1, h⟩ := bnd1_e h
  refine V.sI (as := [.ref (bV (mkB Z) 4), .int a1, .int a2, .int r14]) (st := []) (c_JL_indexOf_4cfef_s4 Z h1) k_JL_indexOf_4cfef lk_JS_637 (by decide) rfl rfl (Nat.le_of_ble_eq_true rfl) d_JS_indexOf_7cf53_17 ?_
  refine V.goto (tgt := 36) d_JS_indexOf_7cf53_20 (by decide) ?_
  cases h
  exact V.iret rfl d_JS_indexOf_7cf53_36 ⟨rfl, rfl⟩
def f_JS_indexOf_0f7a4_s4 (N : Nat) (a1 : Int32) : Option (Int32) :=
  bnd1 (f_JS_indexOf_7cf53_s4 N a1 0) fun r3 =>
  some r3
set_option maxHeartbeats 4000000 in
set_option maxRecDepth 20000 in
theorem c_JS_indexOf_0f7a4_s4 (Z : ZX) {N : Nat} {σ : Mem} {a1 : Int32} {r : Int32} (h : f_JS_indexOf_0f7a4_s4 N a1 = some r) : CI Z 3 m_JS_indexOf_0f7a4 [.ref (bK (mkB Z) 4), .int a1] σ r σ := by
  refine Ct.of (by decide +kernel) (Nat.le_of_ble_eq_true rfl) (fun Y => ?_)
  show V (mkB Z) Y m_JS_indexOf_0f7a4 3 (QP (mkB Z) Y nC 0 0 (fun v t => v = some (.int r) ∧ t = σ)) 0 0 nC σ 0 [(0, .ref (bK (mkB Z) 4)), (1, .int a1)] []
  unfold f_JS_indexOf_0f7a4_s4 at h
  refine V.aload_n d_JS_indexOf_0f7a4_0 rfl 0 rfl ?_
  refine V.iload_n d_JS_indexOf_0f7a4_1 rfl 1 rfl ?_
  refine V.iconst (v := 0) d_JS_indexOf_0f7a4_2 (by decide) ?_
  obtain ⟨r3, h1, h⟩ := bnd1_e h
  refine V.uI (as := [.int a1, .int 0]) (st := []) (by decide) (c_JS_indexOf_7cf53_s4 Z h1) k_JS_indexOf_7cf53 rfl lk_JS_633 (by decide) rfl rfl (Nat.le_of_ble_eq_true rfl) d_JS_indexOf_0f7a4_3 ?_
  cases h
  exact V.iret rfl d_JS_indexOf_0f7a4_6 ⟨rfl, rfl⟩
def f_Rd_isOneOf_s4 (N : Nat) (σ : Mem) : Option (Int32) :=
  bnd1 (f_Rd_sign σ) fun r1 =>
  if r1 < 0 then
    (some 0)
  else
    (bnd1 (f_JS_indexOf_0f7a4_s4 N ((r1.toUInt32 % 65536).toInt32)) fun r12 =>
    if r12 < 0 then
      (some 0)
    else
      (some 1))
set_option maxHeartbeats 4000000 in
set_option maxRecDepth 20000 in
theorem c_Rd_isOneOf_s4 (Z : ZX) {N : Nat} {σ : Mem} {r : Int32} (h : f_Rd_isOneOf_s4 N σ = some r) : CI Z 4 m_Rd_isOneOf [rf Z 17, .ref (bK (mkB Z) 4)] σ r σ := by
  refine Ct.of (by decide +kernel) (Nat.le_of_ble_eq_true rfl) (fun Y => ?_)
  show V (mkB Z) Y m_Rd_isOneOf 4 (QP (mkB Z) Y nC 0 0 (fun v t => v = some (.int r) ∧ t = σ)) 0 0 nC σ 0 [(0, rf Z 17), (1, .ref (bK (mkB Z) 4))] []
  unfold f_Rd_isOneOf_s4 at h
  refine V.aload_n d_Rd_isOneOf_0 rfl 0 rfl ?_
  obtain ⟨r1, h1, h⟩ := bnd1_e h
  refine V.vI (as := []) (st := []) (c_Rd_sign Z h1) k_Rd_sign lk_Rd_58 (by decide) rfl (by decide) ly_17 ok_Rd.1 rfl (Nat.le_of_ble_eq_true rfl) d_Rd_isOneOf_1 ?_
  refine V.istore_n (lv' := [(2, .int r1), (0, rf Z 17), (1, .ref (bK (mkB Z) 4))]) d_Rd_isOneOf_4 rfl (by decide) rfl ?_
  refine V.iload_n d_Rd_isOneOf_5 rfl 0 rfl ?_
  refine V.if_lt (tgt := 22) d_Rd_isOneOf_6 (by decide) (fun hc6 => ?_) (fun hc6 => ?_)
  · replace h := ite_t hc6 h
    refine V.iconst (v := 0) d_Rd_isOneOf_22 (by decide) ?_
    cases h
    exact V.zret rfl rfl d_Rd_isOneOf_23 ⟨rfl, rfl⟩
  · replace h := ite_f hc6 h
    refine V.aload_n d_Rd_isOneOf_9 rfl 2 rfl ?_
    refine V.iload_n d_Rd_isOneOf_10 rfl 0 rfl ?_
    refine V.i2c d_Rd_isOneOf_11 ?_
    obtain ⟨r12, h1, h⟩ := bnd1_e h
    refine V.uI (as := [.int ((r1.toUInt32 % 65536).toInt32)]) (st := []) (by decide) (c_JS_indexOf_0f7a4_s4 Z h1) k_JS_indexOf_0f7a4 rfl lk_Rd_61 (by decide) rfl rfl (Nat.le_of_ble_eq_true rfl) d_Rd_isOneOf_12 ?_
    refine V.if_lt (tgt := 22) d_Rd_isOneOf_15 (by decide) (fun hc15 => ?_) (fun hc15 => ?_)
    · replace h := ite_t hc15 h
      refine V.iconst (v := 0) d_Rd_isOneOf_22 (by decide) ?_
      cases h
      exact V.zret rfl rfl d_Rd_isOneOf_23 ⟨rfl, rfl⟩
    · replace h := ite_f hc15 h
      refine V.iconst (v := 1) d_Rd_isOneOf_18 (by decide) ?_
      refine V.goto (tgt := 23) d_Rd_isOneOf_19 (by decide) ?_
      cases h
      exact V.zret rfl rfl d_Rd_isOneOf_23 ⟨rfl, rfl⟩
abbrev m_Rd_readNumber : MI := (⟨"ShadeTown$LawReader", "readNumber", "()Z"⟩, prog_5_method_17_code, 3, (Option.some Jvm.ClassFile.FieldType.boolean))
theorem d_Rd_readNumber_0 : decode prog_5_method_17_code 0 = .ok (.iconst 0, 1) := by decide +kernel
theorem d_Rd_readNumber_1 : decode prog_5_method_17_code 1 = .ok (.istore_n 1, 1) := by decide +kernel
theorem d_Rd_readNumber_2 : decode prog_5_method_17_code 2 = .ok (.iconst 0, 1) := by decide +kernel
theorem d_Rd_readNumber_3 : decode prog_5_method_17_code 3 = .ok (.istore_n 2, 1) := by decide +kernel
theorem d_Rd_readNumber_4 : decode prog_5_method_17_code 4 = .ok (.iload_n 2, 1) := by decide +kernel
theorem d_Rd_readNumber_5 : decode prog_5_method_17_code 5 = .ok (.iconst 5, 1) := by decide +kernel
theorem d_Rd_readNumber_9 : decode prog_5_method_17_code 9 = .ok (.aload_n 0, 1) := by decide +kernel
theorem d_Rd_readNumber_10 : decode prog_5_method_17_code 10 = .ok (.invokevirtual 129, 3) := by decide +kernel
theorem k_Rd_isDigit : MOk m_Rd_isDigit 0 ∧ IOk m_Rd_isDigit := ⟨⟨atG 630 (by decide +kernel) rfl, atG 114 (by decide +kernel) rfl, ⟨by decide, by decide⟩, by decide +kernel, by decide⟩, atG 629 (by decide +kernel) rfl, atG 10 (by decide +kernel) rfl⟩
theorem lk_Rd_129 : Cond.methodLink "ShadeTown$LawReader" 129 ⟨"ShadeTown$LawReader", "isDigit", "()Z"⟩ ∈ tblG := atG 627 (by decide +kernel) rfl
theorem d_Rd_readNumber_16 : decode prog_5_method_17_code 16 = .ok (.bipush 10, 2) := by decide +kernel
theorem d_Rd_readNumber_18 : decode prog_5_method_17_code 18 = .ok (.iload_n 1, 1) := by decide +kernel
theorem d_Rd_readNumber_19 : decode prog_5_method_17_code 19 = .ok (.imul, 1) := by decide +kernel
theorem d_Rd_readNumber_20 : decode prog_5_method_17_code 20 = .ok (.aload_n 0, 1) := by decide +kernel
theorem d_Rd_readNumber_21 : decode prog_5_method_17_code 21 = .ok (.invokevirtual 58, 3) := by decide +kernel
theorem d_Rd_readNumber_24 : decode prog_5_method_17_code 24 = .ok (.iadd, 1) := by decide +kernel
theorem d_Rd_readNumber_25 : decode prog_5_method_17_code 25 = .ok (.bipush 48, 2) := by decide +kernel
theorem d_Rd_readNumber_27 : decode prog_5_method_17_code 27 = .ok (.isub, 1) := by decide +kernel
theorem d_Rd_readNumber_28 : decode prog_5_method_17_code 28 = .ok (.istore_n 1, 1) := by decide +kernel
theorem d_Rd_readNumber_29 : decode prog_5_method_17_code 29 = .ok (.aload_n 0, 1) := by decide +kernel
theorem d_Rd_readNumber_30 : decode prog_5_method_17_code 30 = .ok (.dup, 1) := by decide +kernel
theorem d_Rd_readNumber_31 : decode prog_5_method_17_code 31 = .ok (.getfield 19, 3) := by decide +kernel
theorem d_Rd_readNumber_34 : decode prog_5_method_17_code 34 = .ok (.iconst 1, 1) := by decide +kernel
theorem d_Rd_readNumber_35 : decode prog_5_method_17_code 35 = .ok (.iadd, 1) := by decide +kernel
theorem d_Rd_readNumber_36 : decode prog_5_method_17_code 36 = .ok (.putfield 19, 3) := by decide +kernel
theorem d_Rd_readNumber_39 : decode prog_5_method_17_code 39 = .ok (.iinc 2 1, 3) := by decide +kernel
theorem d_Rd_readNumber_42 : decode prog_5_method_17_code 42 = .ok (.goto (-38), 3) := by decide +kernel
theorem d_Rd_readNumber_13 : decode prog_5_method_17_code 13 = .ok (.ifCond .eq 32, 3) := by decide +kernel
theorem d_Rd_readNumber_6 : decode prog_5_method_17_code 6 = .ok (.if_icmp .ge 39, 3) := by decide +kernel
theorem d_Rd_readNumber_45 : decode prog_5_method_17_code 45 = .ok (.aload_n 0, 1) := by decide +kernel
theorem d_Rd_readNumber_46 : decode prog_5_method_17_code 46 = .ok (.invokevirtual 129, 3) := by decide +kernel
theorem d_Rd_readNumber_58 : decode prog_5_method_17_code 58 = .ok (.aload_n 0, 1) := by decide +kernel
theorem fl_Rd_29 : FL "ShadeTown$LawReader" 29 T_Rd 1 := atG 192 (by decide +kernel) rfl
theorem d_Rd_readNumber_59 : decode prog_5_method_17_code 59 = .ok (.getfield 29, 3) := by decide +kernel
theorem d_Rd_readNumber_62 : decode prog_5_method_17_code 62 = .ok (.iconst 1, 1) := by decide +kernel
theorem d_Rd_readNumber_63 : decode prog_5_method_17_code 63 = .ok (.invokevirtual 90, 3) := by decide +kernel
theorem lk_Rd_90 : Cond.methodLink "ShadeTown$LawReader" 90 ⟨"ShadeTown$Law", "put", "(I)V"⟩ ∈ tblG := atG 635 (by decide +kernel) rfl
theorem d_Rd_readNumber_66 : decode prog_5_method_17_code 66 = .ok (.aload_n 0, 1) := by decide +kernel
theorem d_Rd_readNumber_67 : decode prog_5_method_17_code 67 = .ok (.getfield 29, 3) := by decide +kernel
theorem d_Rd_readNumber_70 : decode prog_5_method_17_code 70 = .ok (.iload_n 1, 1) := by decide +kernel
theorem d_Rd_readNumber_71 : decode prog_5_method_17_code 71 = .ok (.invokevirtual 90, 3) := by decide +kernel
theorem d_Rd_readNumber_74 : decode prog_5_method_17_code 74 = .ok (.iconst 1, 1) := by decide +kernel
theorem d_Rd_readNumber_75 : decode prog_5_method_17_code 75 = .ok (.ireturn, 1) := by decide +kernel
theorem d_Rd_readNumber_52 : decode prog_5_method_17_code 52 = .ok (.aload_n 0, 1) := by decide +kernel
theorem d_Rd_readNumber_53 : decode prog_5_method_17_code 53 = .ok (.iconst 2, 1) := by decide +kernel
theorem d_Rd_readNumber_54 : decode prog_5_method_17_code 54 = .ok (.invokevirtual 66, 3) := by decide +kernel
theorem d_Rd_readNumber_57 : decode prog_5_method_17_code 57 = .ok (.ireturn, 1) := by decide +kernel
theorem d_Rd_readNumber_49 : decode prog_5_method_17_code 49 = .ok (.ifCond .eq 9, 3) := by decide +kernel
def B_Rd_readNumber_l4 (N : Nat) (rec : Int32 → Int32 → Mem → Option (Int32 × Mem)) (x1 : Int32) (x2 : Int32) (σ : Mem) : Option (Int32 × Mem) :=
  if 5 ≤ x2 then
    (some (x1, σ))
  else
    (bnd1 (f_Rd_isDigit σ) fun r10 =>
    if r10 = 0 then
      (some (x1, σ))
    else
      (bnd1 (f_Rd_sign σ) fun r21 =>
      letv (((10 * x1) + r21) - 48) fun v28 =>
      letv (sI σ 17 4 ((mI σ 17 4) + 1)) fun σ36 =>
      letv (x2 + 1) fun v39 =>
      rec v28 v39 σ36))
def L_Rd_readNumber_l4 (N : Nat) : Nat → Int32 → Int32 → Mem → Option (Int32 × Mem)
  | 0, _, _, _ => none
  | k + 1, x1, x2, σ => B_Rd_readNumber_l4 N (L_Rd_readNumber_l4 N k) x1 x2 σ
set_option maxHeartbeats 4000000 in
set_option maxRecDepth 20000 in
theorem cL_Rd_readNumber_l4 (Z : ZX) {Y : YX} {Q : State → Prop} {N : Nat} {Good : Int32 × Mem → Prop} (hE : ∀ (o1 : Int32) (σe : Mem), Good (o1, σe) → V (mkB Z) Y m_Rd_readNumber 2 Q 0 0 nC σe 45 [(0, rf Z 17), (1, .int o1)] []) : ∀ (k : Nat) (x1 : Int32) (x2 : Int32) (σ : Mem) (res : Int32 × Mem), L_Rd_readNumber_l4 N k x1 x2 σ = some res → Good res → V (mkB Z) Y m_Rd_readNumber 2 Q 0 0 nC σ 4 [(0, rf Z 17), (1, .int x1), (2, .int x2)] [] := by
  intro k
  induction k with
  | zero => intro x1 x2 σ res h; cases h
  | succ k ih =>
    intro x1 x2 σ res h hg
    replace h : B_Rd_readNumber_l4 N (L_Rd_readNumber_l4 N k) x1 x2 σ = some res := h
    unfold B_Rd_readNumber_l4 at h
    refine V.iload_n d_Rd_readNumber_4 rfl 2 rfl ?_
    refine V.iconst (v := 5) d_Rd_readNumber_5 (by decide) ?_
    refine V.icmp_ge (tgt := 45) d_Rd_readNumber_6 (by decide) (fun hc6 => ?_) (fun hc6 => ?_)
    · replace h := ite_t hc6 h
      cases h
      exact V.pick [0, 1] rfl (hE _ _ hg)
    · replace h := ite_f hc6 h
      refine V.aload_n d_Rd_readNumber_9 rfl 0 rfl ?_
      obtain ⟨r10, h1, h⟩ := bnd1_e h
      refine V.vI (as := []) (st := []) (c_Rd_isDigit Z h1) k_Rd_isDigit lk_Rd_129 (by decide) rfl (by decide) ly_17 ok_Rd.1 rfl (Nat.le_of_ble_eq_true rfl) d_Rd_readNumber_10 ?_
      refine V.if_eq (tgt := 45) d_Rd_readNumber_13 (by decide) (fun hc13 => ?_) (fun hc13 => ?_)
      · replace h := ite_t hc13 h
        cases h
        exact V.pick [0, 1] rfl (hE _ _ hg)
      · replace h := ite_f hc13 h
        refine V.bipush (v := 10) d_Rd_readNumber_16 (by decide) ?_
        refine V.iload_n d_Rd_readNumber_18 rfl 1 rfl ?_
        refine V.imul d_Rd_readNumber_19 ?_
        refine V.aload_n d_Rd_readNumber_20 rfl 0 rfl ?_
        obtain ⟨r21, h1, h⟩ := bnd1_e h
        refine V.vI (as := []) (st := [.int (10 * x1)]) (c_Rd_sign Z h1) k_Rd_sign lk_Rd_58 (by decide) rfl (by decide) ly_17 ok_Rd.1 rfl (Nat.le_of_ble_eq_true rfl) d_Rd_readNumber_21 ?_
        refine V.iadd d_Rd_readNumber_24 ?_
        refine V.bipush (v := 48) d_Rd_readNumber_25 (by decide) ?_
        refine V.isub d_Rd_readNumber_27 ?_
        obtain ⟨v28, e_v28, h⟩ := letv_e h
        refine V.topI e_v28 ?_
        refine V.istore_n (lv' := [(1, .int v28), (0, rf Z 17), (2, .int x2)]) d_Rd_readNumber_28 rfl (by decide) rfl ?_
        refine V.aload_n d_Rd_readNumber_29 rfl 1 rfl ?_
        refine V.dup d_Rd_readNumber_30 rfl ?_
        refine V.getI ok_Rd fl_Rd_19 (by decide) (by decide) ly_17 rfl d_Rd_readNumber_31 ?_
        refine V.iconst (v := 1) d_Rd_readNumber_34 (by decide) ?_
        refine V.iadd d_Rd_readNumber_35 ?_
        obtain ⟨σ36, e_σ36, h⟩ := letv_e h
        refine V.putI ok_Rd fl_Rd_19 (by decide) (by decide) ly_17 rfl rfl rfl rfl d_Rd_readNumber_36 (V.mem e_σ36 ?_)
        obtain ⟨v39, e_v39, h⟩ := letv_e h
        refine V.iinc (v := v39) (lv' := [(2, .int v39), (1, .int v28), (0, rf Z 17)]) d_Rd_readNumber_39 2 rfl (by rw [e_v39]; rfl) (by decide) rfl ?_
        refine V.goto (tgt := 4) d_Rd_readNumber_42 (by decide) ?_
        exact V.pick [2, 1, 0] rfl (ih _ _ _ _ h hg)
def f_Rd_readNumber (N : Nat) (σ : Mem) : Option (Int32 × Mem) :=
  bnd1 (L_Rd_readNumber_l4 N N 0 0 σ) fun x4_ =>
  q2 x4_ fun z4_1 σ4_ =>
  bnd1 (f_Rd_isDigit σ4_) fun r46 =>
  if r46 = 0 then
    (bnd1 (f_La_put_b σ4_ 1) fun σ63 =>
    bnd1 (f_La_put_b σ63 z4_1) fun σ71 =>
    some (1, σ71))
  else
    (bnd2 (f_Rd_fail σ4_ 2) fun r54 σ54 =>
    grd (decide (r54 &&& 1 = r54)) (some (r54, σ54)))
set_option maxHeartbeats 4000000 in
set_option maxRecDepth 20000 in
theorem c_Rd_readNumber (Z : ZX) {N : Nat} {σ : Mem} {r : Int32} {σ' : Mem} (h : f_Rd_readNumber N σ = some (r, σ')) : CI Z 2 m_Rd_readNumber [rf Z 17] σ r σ' := by
  refine Ct.of (by decide +kernel) (Nat.le_of_ble_eq_true rfl) (fun Y => ?_)
  show V (mkB Z) Y m_Rd_readNumber 2 (QP (mkB Z) Y nC 0 0 (fun v t => v = some (.int r) ∧ t = σ')) 0 0 nC σ 0 [(0, rf Z 17)] []
  unfold f_Rd_readNumber at h
  refine V.iconst (v := 0) d_Rd_readNumber_0 (by decide) ?_
  refine V.istore_n (lv' := [(1, .int 0), (0, rf Z 17)]) d_Rd_readNumber_1 rfl (by decide) rfl ?_
  refine V.iconst (v := 0) d_Rd_readNumber_2 (by decide) ?_
  refine V.istore_n (lv' := [(2, .int 0), (1, .int 0), (0, rf Z 17)]) d_Rd_readNumber_3 rfl (by decide) rfl ?_
  obtain ⟨x4_, h1, h⟩ := bnd1_e h
  refine V.pick [2, 1, 0] rfl (cL_Rd_readNumber_l4 Z (Good := fun z => x4_ = z) (fun z4_1 σ4_ he => ?_) N _ _ _ _ h1 rfl)
  · rw [he] at h
    replace h := q2_e h
    refine V.aload_n d_Rd_readNumber_45 rfl 0 rfl ?_
    obtain ⟨r46, h1, h⟩ := bnd1_e h
    refine V.vI (as := []) (st := []) (c_Rd_isDigit Z h1) k_Rd_isDigit lk_Rd_129 (by decide) rfl (by decide) ly_17 ok_Rd.1 rfl (Nat.le_of_ble_eq_true rfl) d_Rd_readNumber_46 ?_
    refine V.if_eq (tgt := 58) d_Rd_readNumber_49 (by decide) (fun hc49 => ?_) (fun hc49 => ?_)
    · replace h := ite_t hc49 h
      refine V.aload_n d_Rd_readNumber_58 rfl 0 rfl ?_
      refine V.getR (r := 10) ok_Rd fl_Rd_29 (by decide) (by decide) ly_17 rfl d_Rd_readNumber_59 ?_
      refine V.iconst (v := 1) d_Rd_readNumber_62 (by decide) ?_
      obtain ⟨σ63, h1, h⟩ := bnd1_e h
      refine V.vN (as := [.int 1]) (st := []) (c_La_put_b Z h1) k_La_put lk_Rd_90 (by decide) rfl (by decide) ly_10 ok_La.1 rfl (Nat.le_of_ble_eq_true rfl) d_Rd_readNumber_63 ?_
      refine V.aload_n d_Rd_readNumber_66 rfl 0 rfl ?_
      refine V.getR (r := 10) ok_Rd fl_Rd_29 (by decide) (by decide) ly_17 rfl d_Rd_readNumber_67 ?_
      refine V.iload_n d_Rd_readNumber_70 rfl 1 rfl ?_
      obtain ⟨σ71, h1, h⟩ := bnd1_e h
      refine V.vN (as := [.int z4_1]) (st := []) (c_La_put_b Z h1) k_La_put lk_Rd_90 (by decide) rfl (by decide) ly_10 ok_La.1 rfl (Nat.le_of_ble_eq_true rfl) d_Rd_readNumber_71 ?_
      refine V.iconst (v := 1) d_Rd_readNumber_74 (by decide) ?_
      cases h
      exact V.zret rfl rfl d_Rd_readNumber_75 ⟨rfl, rfl⟩
    · replace h := ite_f hc49 h
      refine V.aload_n d_Rd_readNumber_52 rfl 0 rfl ?_
      refine V.iconst (v := 2) d_Rd_readNumber_53 (by decide) ?_
      obtain ⟨r54, σ54, h1, h⟩ := bnd2_e h
      refine V.vI (as := [.int 2]) (st := []) (c_Rd_fail Z h1) k_Rd_fail lk_Rd_66 (by decide) rfl (by decide) ly_17 ok_Rd.1 rfl (Nat.le_of_ble_eq_true rfl) d_Rd_readNumber_54 ?_
      obtain ⟨hz, h⟩ := grd_e h
      have hz := congrArg Value.int (of_decide_eq_true hz)
      cases h
      exact V.zret rfl hz d_Rd_readNumber_57 ⟨rfl, rfl⟩
abbrev m_Rd_readParts : MI := (⟨"ShadeTown$LawReader", "readParts", "(I)Z"⟩, prog_5_method_10_code, 4, (Option.some Jvm.ClassFile.FieldType.boolean))
theorem d_Rd_readParts_0 : decode prog_5_method_10_code 0 = .ok (.iconst (-1), 1) := by decide +kernel
theorem d_Rd_readParts_1 : decode prog_5_method_10_code 1 = .ok (.istore_n 2, 1) := by decide +kernel
theorem d_Rd_readParts_2 : decode prog_5_method_10_code 2 = .ok (.iconst 0, 1) := by decide +kernel
theorem d_Rd_readParts_3 : decode prog_5_method_10_code 3 = .ok (.istore_n 3, 1) := by decide +kernel
theorem d_Rd_readParts_4 : decode prog_5_method_10_code 4 = .ok (.iload_n 3, 1) := by decide +kernel
theorem d_Rd_readParts_5 : decode prog_5_method_10_code 5 = .ok (.sipush 240, 3) := by decide +kernel
theorem d_Rd_readParts_66 : decode prog_5_method_10_code 66 = .ok (.aload_n 0, 1) := by decide +kernel
theorem d_Rd_readParts_67 : decode prog_5_method_10_code 67 = .ok (.iconst 1, 1) := by decide +kernel
theorem d_Rd_readParts_68 : decode prog_5_method_10_code 68 = .ok (.invokevirtual 66, 3) := by decide +kernel
theorem d_Rd_readParts_71 : decode prog_5_method_10_code 71 = .ok (.ireturn, 1) := by decide +kernel
theorem d_Rd_readParts_11 : decode prog_5_method_10_code 11 = .ok (.aload_n 0, 1) := by decide +kernel
theorem d_Rd_readParts_12 : decode prog_5_method_10_code 12 = .ok (.iload_n 1, 1) := by decide +kernel
theorem d_Rd_readParts_13 : decode prog_5_method_10_code 13 = .ok (.invokevirtual 102, 3) := by decide +kernel
abbrev m_Rd_readPieces : MI := (⟨"ShadeTown$LawReader", "readPieces", "(I)Z"⟩, prog_5_method_11_code, 4, (Option.some Jvm.ClassFile.FieldType.boolean))
theorem k_Rd_readPieces : MOk m_Rd_readPieces 1 ∧ IOk m_Rd_readPieces := ⟨⟨atG 653 (by decide +kernel) rfl, atG 114 (by decide +kernel) rfl, ⟨by decide, by decide⟩, by decide +kernel, by decide⟩, atG 652 (by decide +kernel) rfl, atG 13 (by decide +kernel) rfl⟩
theorem lk_Rd_102 : Cond.methodLink "ShadeTown$LawReader" 102 ⟨"ShadeTown$LawReader", "readPieces", "(I)Z"⟩ ∈ tblG := atG 650 (by decide +kernel) rfl
theorem d_Rd_readParts_21 : decode prog_5_method_10_code 21 = .ok (.aload_n 0, 1) := by decide +kernel
theorem d_Rd_readParts_22 : decode prog_5_method_10_code 22 = .ok (.invokevirtual 58, 3) := by decide +kernel
theorem d_Rd_readParts_25 : decode prog_5_method_10_code 25 = .ok (.bipush 124, 2) := by decide +kernel
theorem d_Rd_readParts_40 : decode prog_5_method_10_code 40 = .ok (.aload_n 0, 1) := by decide +kernel
theorem d_Rd_readParts_41 : decode prog_5_method_10_code 41 = .ok (.dup, 1) := by decide +kernel
theorem d_Rd_readParts_42 : decode prog_5_method_10_code 42 = .ok (.getfield 19, 3) := by decide +kernel
theorem d_Rd_readParts_45 : decode prog_5_method_10_code 45 = .ok (.iconst 1, 1) := by decide +kernel
theorem d_Rd_readParts_46 : decode prog_5_method_10_code 46 = .ok (.iadd, 1) := by decide +kernel
theorem d_Rd_readParts_47 : decode prog_5_method_10_code 47 = .ok (.putfield 19, 3) := by decide +kernel
theorem d_Rd_readParts_50 : decode prog_5_method_10_code 50 = .ok (.aload_n 0, 1) := by decide +kernel
theorem d_Rd_readParts_51 : decode prog_5_method_10_code 51 = .ok (.getfield 29, 3) := by decide +kernel
theorem d_Rd_readParts_54 : decode prog_5_method_10_code 54 = .ok (.iconst 4, 1) := by decide +kernel
theorem d_Rd_readParts_55 : decode prog_5_method_10_code 55 = .ok (.iload_n 2, 1) := by decide +kernel
theorem d_Rd_readParts_56 : decode prog_5_method_10_code 56 = .ok (.invokevirtual 108, 3) := by decide +kernel
theorem k_La_putJump : MOk m_La_putJump 2 ∧ IOk m_La_putJump := ⟨⟨atG 666 (by decide +kernel) rfl, atG 113 (by decide +kernel) rfl, ⟨by decide, by decide⟩, by decide +kernel, by decide⟩, atG 664 (by decide +kernel) rfl, atG 665 (by decide +kernel) rfl⟩
theorem lk_Rd_108 : Cond.methodLink "ShadeTown$LawReader" 108 ⟨"ShadeTown$Law", "putJump", "(II)I"⟩ ∈ tblG := atG 663 (by decide +kernel) rfl
theorem d_Rd_readParts_59 : decode prog_5_method_10_code 59 = .ok (.istore_n 2, 1) := by decide +kernel
theorem d_Rd_readParts_60 : decode prog_5_method_10_code 60 = .ok (.iinc 3 1, 3) := by decide +kernel
theorem d_Rd_readParts_63 : decode prog_5_method_10_code 63 = .ok (.goto (-59), 3) := by decide +kernel
theorem d_Rd_readParts_30 : decode prog_5_method_10_code 30 = .ok (.aload_n 0, 1) := by decide +kernel
theorem d_Rd_readParts_31 : decode prog_5_method_10_code 31 = .ok (.getfield 29, 3) := by decide +kernel
theorem d_Rd_readParts_34 : decode prog_5_method_10_code 34 = .ok (.iload_n 2, 1) := by decide +kernel
theorem d_Rd_readParts_35 : decode prog_5_method_10_code 35 = .ok (.invokevirtual 105, 3) := by decide +kernel
theorem k_La_aimHere : MOk m_La_aimHere 1 ∧ IOk m_La_aimHere := ⟨⟨atG 662 (by decide +kernel) rfl, atG 113 (by decide +kernel) rfl, ⟨by decide, by decide⟩, by decide +kernel, by decide⟩, atG 660 (by decide +kernel) rfl, atG 661 (by decide +kernel) rfl⟩
theorem lk_Rd_105 : Cond.methodLink "ShadeTown$LawReader" 105 ⟨"ShadeTown$Law", "aimHere", "(I)V"⟩ ∈ tblG := atG 659 (by decide +kernel) rfl
theorem d_Rd_readParts_38 : decode prog_5_method_10_code 38 = .ok (.iconst 1, 1) := by decide +kernel
theorem d_Rd_readParts_39 : decode prog_5_method_10_code 39 = .ok (.ireturn, 1) := by decide +kernel
theorem d_Rd_readParts_27 : decode prog_5_method_10_code 27 = .ok (.if_icmp .eq 13, 3) := by decide +kernel
theorem d_Rd_readParts_19 : decode prog_5_method_10_code 19 = .ok (.iconst 0, 1) := by decide +kernel
theorem d_Rd_readParts_20 : decode prog_5_method_10_code 20 = .ok (.ireturn, 1) := by decide +kernel
theorem d_Rd_readParts_16 : decode prog_5_method_10_code 16 = .ok (.ifCond .ne 5, 3) := by decide +kernel
theorem d_Rd_readParts_8 : decode prog_5_method_10_code 8 = .ok (.if_icmp .gt 58, 3) := by decide +kernel
theorem d_Rd_readPieces_0 : decode prog_5_method_11_code 0 = .ok (.iconst (-1), 1) := by decide +kernel
theorem d_Rd_readPieces_1 : decode prog_5_method_11_code 1 = .ok (.istore_n 2, 1) := by decide +kernel
theorem d_Rd_readPieces_2 : decode prog_5_method_11_code 2 = .ok (.iconst 0, 1) := by decide +kernel
theorem d_Rd_readPieces_3 : decode prog_5_method_11_code 3 = .ok (.istore_n 3, 1) := by decide +kernel
theorem d_Rd_readPieces_4 : decode prog_5_method_11_code 4 = .ok (.iload_n 3, 1) := by decide +kernel
theorem d_Rd_readPieces_5 : decode prog_5_method_11_code 5 = .ok (.sipush 240, 3) := by decide +kernel
theorem d_Rd_readPieces_66 : decode prog_5_method_11_code 66 = .ok (.aload_n 0, 1) := by decide +kernel
theorem d_Rd_readPieces_67 : decode prog_5_method_11_code 67 = .ok (.iconst 1, 1) := by decide +kernel
theorem d_Rd_readPieces_68 : decode prog_5_method_11_code 68 = .ok (.invokevirtual 66, 3) := by decide +kernel
theorem d_Rd_readPieces_71 : decode prog_5_method_11_code 71 = .ok (.ireturn, 1) := by decide +kernel
theorem d_Rd_readPieces_11 : decode prog_5_method_11_code 11 = .ok (.aload_n 0, 1) := by decide +kernel
theorem d_Rd_readPieces_12 : decode prog_5_method_11_code 12 = .ok (.iload_n 1, 1) := by decide +kernel
theorem d_Rd_readPieces_13 : decode prog_5_method_11_code 13 = .ok (.invokevirtual 111, 3) := by decide +kernel
abbrev m_Rd_readPiece : MI := (⟨"ShadeTown$LawReader", "readPiece", "(I)Z"⟩, prog_5_method_12_code, 3, (Option.some Jvm.ClassFile.FieldType.boolean))
theorem k_Rd_readPiece : MOk m_Rd_readPiece 1 ∧ IOk m_Rd_readPiece := ⟨⟨atG 657 (by decide +kernel) rfl, atG 114 (by decide +kernel) rfl, ⟨by decide, by decide⟩, by decide +kernel, by decide⟩, atG 656 (by decide +kernel) rfl, atG 14 (by decide +kernel) rfl⟩
theorem lk_Rd_111 : Cond.methodLink "ShadeTown$LawReader" 111 ⟨"ShadeTown$LawReader", "readPiece", "(I)Z"⟩ ∈ tblG := atG 654 (by decide +kernel) rfl
theorem d_Rd_readPieces_21 : decode prog_5_method_11_code 21 = .ok (.aload_n 0, 1) := by decide +kernel
theorem d_Rd_readPieces_22 : decode prog_5_method_11_code 22 = .ok (.invokevirtual 58, 3) := by decide +kernel
theorem d_Rd_readPieces_25 : decode prog_5_method_11_code 25 = .ok (.bipush 38, 2) := by decide +kernel
theorem d_Rd_readPieces_40 : decode prog_5_method_11_code 40 = .ok (.aload_n 0, 1) := by decide +kernel
theorem d_Rd_readPieces_41 : decode prog_5_method_11_code 41 = .ok (.dup, 1) := by decide +kernel
theorem d_Rd_readPieces_42 : decode prog_5_method_11_code 42 = .ok (.getfield 19, 3) := by decide +kernel
theorem d_Rd_readPieces_45 : decode prog_5_method_11_code 45 = .ok (.iconst 1, 1) := by decide +kernel
theorem d_Rd_readPieces_46 : decode prog_5_method_11_code 46 = .ok (.iadd, 1) := by decide +kernel
theorem d_Rd_readPieces_47 : decode prog_5_method_11_code 47 = .ok (.putfield 19, 3) := by decide +kernel
theorem d_Rd_readPieces_50 : decode prog_5_method_11_code 50 = .ok (.aload_n 0, 1) := by decide +kernel
theorem d_Rd_readPieces_51 : decode prog_5_method_11_code 51 = .ok (.getfield 29, 3) := by decide +kernel
theorem d_Rd_readPieces_54 : decode prog_5_method_11_code 54 = .ok (.iconst 3, 1) := by decide +kernel
theorem d_Rd_readPieces_55 : decode prog_5_method_11_code 55 = .ok (.iload_n 2, 1) := by decide +kernel
theorem d_Rd_readPieces_56 : decode prog_5_method_11_code 56 = .ok (.invokevirtual 108, 3) := by decide +kernel
theorem d_Rd_readPieces_59 : decode prog_5_method_11_code 59 = .ok (.istore_n 2, 1) := by decide +kernel
theorem d_Rd_readPieces_60 : decode prog_5_method_11_code 60 = .ok (.iinc 3 1, 3) := by decide +kernel
theorem d_Rd_readPieces_63 : decode prog_5_method_11_code 63 = .ok (.goto (-59), 3) := by decide +kernel
theorem d_Rd_readPieces_30 : decode prog_5_method_11_code 30 = .ok (.aload_n 0, 1) := by decide +kernel
theorem d_Rd_readPieces_31 : decode prog_5_method_11_code 31 = .ok (.getfield 29, 3) := by decide +kernel
theorem d_Rd_readPieces_34 : decode prog_5_method_11_code 34 = .ok (.iload_n 2, 1) := by decide +kernel
theorem d_Rd_readPieces_35 : decode prog_5_method_11_code 35 = .ok (.invokevirtual 105, 3) := by decide +kernel
theorem d_Rd_readPieces_38 : decode prog_5_method_11_code 38 = .ok (.iconst 1, 1) := by decide +kernel
theorem d_Rd_readPieces_39 : decode prog_5_method_11_code 39 = .ok (.ireturn, 1) := by decide +kernel
theorem d_Rd_readPieces_27 : decode prog_5_method_11_code 27 = .ok (.if_icmp .eq 13, 3) := by decide +kernel
theorem d_Rd_readPieces_19 : decode prog_5_method_11_code 19 = .ok (.iconst 0, 1) := by decide +kernel
theorem d_Rd_readPieces_20 : decode prog_5_method_11_code 20 = .ok (.ireturn, 1) := by decide +kernel
theorem d_Rd_readPieces_16 : decode prog_5_method_11_code 16 = .ok (.ifCond .ne 5, 3) := by decide +kernel
theorem d_Rd_readPieces_8 : decode prog_5_method_11_code 8 = .ok (.if_icmp .gt 58, 3) := by decide +kernel
theorem d_Rd_readPiece_0 : decode prog_5_method_12_code 0 = .ok (.aload_n 0, 1) := by decide +kernel
theorem d_Rd_readPiece_1 : decode prog_5_method_12_code 1 = .ok (.invokevirtual 58, 3) := by decide +kernel
theorem d_Rd_readPiece_4 : decode prog_5_method_12_code 4 = .ok (.bipush 33, 2) := by decide +kernel
theorem d_Rd_readPiece_39 : decode prog_5_method_12_code 39 = .ok (.aload_n 0, 1) := by decide +kernel
theorem d_Rd_readPiece_40 : decode prog_5_method_12_code 40 = .ok (.invokevirtual 58, 3) := by decide +kernel
theorem d_Rd_readPiece_43 : decode prog_5_method_12_code 43 = .ok (.bipush 40, 2) := by decide +kernel
theorem d_Rd_readPiece_81 : decode prog_5_method_12_code 81 = .ok (.aload_n 0, 1) := by decide +kernel
theorem d_Rd_readPiece_82 : decode prog_5_method_12_code 82 = .ok (.iload_n 1, 1) := by decide +kernel
theorem d_Rd_readPiece_83 : decode prog_5_method_12_code 83 = .ok (.invokevirtual 87, 3) := by decide +kernel
abbrev m_Rd_readSum : MI := (⟨"ShadeTown$LawReader", "readSum", "(I)Z"⟩, prog_5_method_13_code, 4, (Option.some Jvm.ClassFile.FieldType.boolean))
theorem k_Rd_readSum : MOk m_Rd_readSum 1 ∧ IOk m_Rd_readSum := ⟨⟨atG 610 (by decide +kernel) rfl, atG 114 (by decide +kernel) rfl, ⟨by decide, by decide⟩, by decide +kernel, by decide⟩, atG 609 (by decide +kernel) rfl, atG 5 (by decide +kernel) rfl⟩
theorem lk_Rd_87 : Cond.methodLink "ShadeTown$LawReader" 87 ⟨"ShadeTown$LawReader", "readSum", "(I)Z"⟩ ∈ tblG := atG 607 (by decide +kernel) rfl
theorem d_Rd_readPiece_91 : decode prog_5_method_12_code 91 = .ok (.aload_n 0, 1) := by decide +kernel
theorem d_Rd_readPiece_92 : decode prog_5_method_12_code 92 = .ok (.ldc 117, 2) := by decide +kernel
theorem d_Rd_readPiece_94 : decode prog_5_method_12_code 94 = .ok (.invokevirtual 79, 3) := by decide +kernel
theorem k_Rd_isOneOf : MOk m_Rd_isOneOf 1 ∧ IOk m_Rd_isOneOf := ⟨⟨atG 506 (by decide +kernel) rfl, atG 114 (by decide +kernel) rfl, ⟨by decide, by decide⟩, by decide +kernel, by decide⟩, atG 505 (by decide +kernel) rfl, atG 2 (by decide +kernel) rfl⟩
theorem lk_Rd_79 : Cond.methodLink "ShadeTown$LawReader" 79 ⟨"ShadeTown$LawReader", "isOneOf", "(Ljava/lang/String;)Z"⟩ ∈ tblG := atG 503 (by decide +kernel) rfl
theorem d_Rd_readPiece_106 : decode prog_5_method_12_code 106 = .ok (.aload_n 0, 1) := by decide +kernel
theorem d_Rd_readPiece_107 : decode prog_5_method_12_code 107 = .ok (.invokevirtual 58, 3) := by decide +kernel
theorem d_Rd_readPiece_110 : decode prog_5_method_12_code 110 = .ok (.istore_n 2, 1) := by decide +kernel
theorem d_Rd_readPiece_111 : decode prog_5_method_12_code 111 = .ok (.aload_n 0, 1) := by decide +kernel
theorem d_Rd_readPiece_112 : decode prog_5_method_12_code 112 = .ok (.dup, 1) := by decide +kernel
theorem d_Rd_readPiece_113 : decode prog_5_method_12_code 113 = .ok (.getfield 19, 3) := by decide +kernel
theorem d_Rd_readPiece_116 : decode prog_5_method_12_code 116 = .ok (.iconst 1, 1) := by decide +kernel
theorem d_Rd_readPiece_117 : decode prog_5_method_12_code 117 = .ok (.iadd, 1) := by decide +kernel
theorem d_Rd_readPiece_118 : decode prog_5_method_12_code 118 = .ok (.putfield 19, 3) := by decide +kernel
theorem d_Rd_readPiece_121 : decode prog_5_method_12_code 121 = .ok (.aload_n 0, 1) := by decide +kernel
theorem d_Rd_readPiece_122 : decode prog_5_method_12_code 122 = .ok (.iload_n 1, 1) := by decide +kernel
theorem d_Rd_readPiece_123 : decode prog_5_method_12_code 123 = .ok (.invokevirtual 87, 3) := by decide +kernel
theorem d_Rd_readPiece_131 : decode prog_5_method_12_code 131 = .ok (.aload_n 0, 1) := by decide +kernel
theorem d_Rd_readPiece_132 : decode prog_5_method_12_code 132 = .ok (.getfield 29, 3) := by decide +kernel
theorem d_Rd_readPiece_135 : decode prog_5_method_12_code 135 = .ok (.iload_n 2, 1) := by decide +kernel
theorem d_Rd_readPiece_136 : decode prog_5_method_12_code 136 = .ok (.invokevirtual 90, 3) := by decide +kernel
theorem d_Rd_readPiece_139 : decode prog_5_method_12_code 139 = .ok (.iconst 1, 1) := by decide +kernel
theorem d_Rd_readPiece_140 : decode prog_5_method_12_code 140 = .ok (.ireturn, 1) := by decide +kernel
theorem d_Rd_readPiece_129 : decode prog_5_method_12_code 129 = .ok (.iconst 0, 1) := by decide +kernel
theorem d_Rd_readPiece_130 : decode prog_5_method_12_code 130 = .ok (.ireturn, 1) := by decide +kernel
theorem d_Rd_readPiece_126 : decode prog_5_method_12_code 126 = .ok (.ifCond .ne 5, 3) := by decide +kernel
theorem d_Rd_readPiece_100 : decode prog_5_method_12_code 100 = .ok (.aload_n 0, 1) := by decide +kernel
theorem d_Rd_readPiece_101 : decode prog_5_method_12_code 101 = .ok (.iconst 1, 1) := by decide +kernel
theorem d_Rd_readPiece_102 : decode prog_5_method_12_code 102 = .ok (.invokevirtual 66, 3) := by decide +kernel
theorem d_Rd_readPiece_105 : decode prog_5_method_12_code 105 = .ok (.ireturn, 1) := by decide +kernel
theorem d_Rd_readPiece_97 : decode prog_5_method_12_code 97 = .ok (.ifCond .ne 9, 3) := by decide +kernel
theorem d_Rd_readPiece_89 : decode prog_5_method_12_code 89 = .ok (.iconst 0, 1) := by decide +kernel
theorem d_Rd_readPiece_90 : decode prog_5_method_12_code 90 = .ok (.ireturn, 1) := by decide +kernel
theorem d_Rd_readPiece_86 : decode prog_5_method_12_code 86 = .ok (.ifCond .ne 5, 3) := by decide +kernel
theorem d_Rd_readPiece_48 : decode prog_5_method_12_code 48 = .ok (.aload_n 0, 1) := by decide +kernel
theorem d_Rd_readPiece_49 : decode prog_5_method_12_code 49 = .ok (.iload_n 1, 1) := by decide +kernel
theorem d_Rd_readPiece_50 : decode prog_5_method_12_code 50 = .ok (.invokevirtual 114, 3) := by decide +kernel
theorem k_Rd_stepDeeper : MOk m_Rd_stepDeeper 1 ∧ IOk m_Rd_stepDeeper := ⟨⟨atG 622 (by decide +kernel) rfl, atG 114 (by decide +kernel) rfl, ⟨by decide, by decide⟩, by decide +kernel, by decide⟩, atG 621 (by decide +kernel) rfl, atG 8 (by decide +kernel) rfl⟩
theorem lk_Rd_114 : Cond.methodLink "ShadeTown$LawReader" 114 ⟨"ShadeTown$LawReader", "stepDeeper", "(I)Z"⟩ ∈ tblG := atG 619 (by decide +kernel) rfl
theorem d_Rd_readPiece_79 : decode prog_5_method_12_code 79 = .ok (.iconst 0, 1) := by decide +kernel
theorem d_Rd_readPiece_80 : decode prog_5_method_12_code 80 = .ok (.ireturn, 1) := by decide +kernel
theorem d_Rd_readPiece_56 : decode prog_5_method_12_code 56 = .ok (.aload_n 0, 1) := by decide +kernel
theorem d_Rd_readPiece_57 : decode prog_5_method_12_code 57 = .ok (.iload_n 1, 1) := by decide +kernel
theorem d_Rd_readPiece_58 : decode prog_5_method_12_code 58 = .ok (.iconst 1, 1) := by decide +kernel
theorem d_Rd_readPiece_59 : decode prog_5_method_12_code 59 = .ok (.iadd, 1) := by decide +kernel
theorem d_Rd_readPiece_60 : decode prog_5_method_12_code 60 = .ok (.invokevirtual 96, 3) := by decide +kernel
theorem k_Rd_readParts : MOk m_Rd_readParts 1 ∧ IOk m_Rd_readParts := ⟨⟨atG 649 (by decide +kernel) rfl, atG 114 (by decide +kernel) rfl, ⟨by decide, by decide⟩, by decide +kernel, by decide⟩, atG 648 (by decide +kernel) rfl, atG 12 (by decide +kernel) rfl⟩
theorem lk_Rd_96 : Cond.methodLink "ShadeTown$LawReader" 96 ⟨"ShadeTown$LawReader", "readParts", "(I)Z"⟩ ∈ tblG := atG 646 (by decide +kernel) rfl
theorem d_Rd_readPiece_66 : decode prog_5_method_12_code 66 = .ok (.aload_n 0, 1) := by decide +kernel
theorem d_Rd_readPiece_67 : decode prog_5_method_12_code 67 = .ok (.bipush 41, 2) := by decide +kernel
theorem d_Rd_readPiece_69 : decode prog_5_method_12_code 69 = .ok (.invokevirtual 73, 3) := by decide +kernel
theorem k_Rd_step : MOk m_Rd_step 1 ∧ IOk m_Rd_step := ⟨⟨atG 626 (by decide +kernel) rfl, atG 114 (by decide +kernel) rfl, ⟨by decide, by decide⟩, by decide +kernel, by decide⟩, atG 625 (by decide +kernel) rfl, atG 9 (by decide +kernel) rfl⟩
theorem lk_Rd_73 : Cond.methodLink "ShadeTown$LawReader" 73 ⟨"ShadeTown$LawReader", "step", "(C)Z"⟩ ∈ tblG := atG 623 (by decide +kernel) rfl
theorem d_Rd_readPiece_75 : decode prog_5_method_12_code 75 = .ok (.iconst 1, 1) := by decide +kernel
theorem d_Rd_readPiece_76 : decode prog_5_method_12_code 76 = .ok (.goto 4, 3) := by decide +kernel
theorem d_Rd_readPiece_72 : decode prog_5_method_12_code 72 = .ok (.ifCond .eq 7, 3) := by decide +kernel
theorem d_Rd_readPiece_63 : decode prog_5_method_12_code 63 = .ok (.ifCond .eq 16, 3) := by decide +kernel
theorem d_Rd_readPiece_53 : decode prog_5_method_12_code 53 = .ok (.ifCond .eq 26, 3) := by decide +kernel
theorem d_Rd_readPiece_45 : decode prog_5_method_12_code 45 = .ok (.if_icmp .ne 36, 3) := by decide +kernel
theorem d_Rd_readPiece_9 : decode prog_5_method_12_code 9 = .ok (.aload_n 0, 1) := by decide +kernel
theorem d_Rd_readPiece_10 : decode prog_5_method_12_code 10 = .ok (.iload_n 1, 1) := by decide +kernel
theorem d_Rd_readPiece_11 : decode prog_5_method_12_code 11 = .ok (.invokevirtual 114, 3) := by decide +kernel
theorem d_Rd_readPiece_27 : decode prog_5_method_12_code 27 = .ok (.iconst 0, 1) := by decide +kernel
theorem d_Rd_readPiece_28 : decode prog_5_method_12_code 28 = .ok (.ireturn, 1) := by decide +kernel
theorem d_Rd_readPiece_17 : decode prog_5_method_12_code 17 = .ok (.aload_n 0, 1) := by decide +kernel
theorem d_Rd_readPiece_18 : decode prog_5_method_12_code 18 = .ok (.iload_n 1, 1) := by decide +kernel
theorem d_Rd_readPiece_19 : decode prog_5_method_12_code 19 = .ok (.iconst 1, 1) := by decide +kernel
theorem d_Rd_readPiece_20 : decode prog_5_method_12_code 20 = .ok (.iadd, 1) := by decide +kernel
theorem d_Rd_readPiece_21 : decode prog_5_method_12_code 21 = .ok (.invokevirtual 111, 3) := by decide +kernel
theorem d_Rd_readPiece_29 : decode prog_5_method_12_code 29 = .ok (.aload_n 0, 1) := by decide +kernel
theorem d_Rd_readPiece_30 : decode prog_5_method_12_code 30 = .ok (.getfield 29, 3) := by decide +kernel
theorem d_Rd_readPiece_33 : decode prog_5_method_12_code 33 = .ok (.iconst 5, 1) := by decide +kernel
theorem d_Rd_readPiece_34 : decode prog_5_method_12_code 34 = .ok (.invokevirtual 90, 3) := by decide +kernel
theorem d_Rd_readPiece_37 : decode prog_5_method_12_code 37 = .ok (.iconst 1, 1) := by decide +kernel
theorem d_Rd_readPiece_38 : decode prog_5_method_12_code 38 = .ok (.ireturn, 1) := by decide +kernel
theorem d_Rd_readPiece_24 : decode prog_5_method_12_code 24 = .ok (.ifCond .ne 5, 3) := by decide +kernel
theorem d_Rd_readPiece_14 : decode prog_5_method_12_code 14 = .ok (.ifCond .eq 13, 3) := by decide +kernel
theorem d_Rd_readPiece_6 : decode prog_5_method_12_code 6 = .ok (.if_icmp .ne 33, 3) := by decide +kernel
theorem d_Rd_readSum_0 : decode prog_5_method_13_code 0 = .ok (.aload_n 0, 1) := by decide +kernel
theorem d_Rd_readSum_1 : decode prog_5_method_13_code 1 = .ok (.iload_n 1, 1) := by decide +kernel
theorem d_Rd_readSum_2 : decode prog_5_method_13_code 2 = .ok (.invokevirtual 119, 3) := by decide +kernel
abbrev m_Rd_readTerm : MI := (⟨"ShadeTown$LawReader", "readTerm", "(I)Z"⟩, prog_5_method_14_code, 4, (Option.some Jvm.ClassFile.FieldType.boolean))
theorem k_Rd_readTerm : MOk m_Rd_readTerm 1 ∧ IOk m_Rd_readTerm := ⟨⟨atG 614 (by decide +kernel) rfl, atG 114 (by decide +kernel) rfl, ⟨by decide, by decide⟩, by decide +kernel, by decide⟩, atG 613 (by decide +kernel) rfl, atG 6 (by decide +kernel) rfl⟩
theorem lk_Rd_119 : Cond.methodLink "ShadeTown$LawReader" 119 ⟨"ShadeTown$LawReader", "readTerm", "(I)Z"⟩ ∈ tblG := atG 611 (by decide +kernel) rfl
theorem d_Rd_readSum_10 : decode prog_5_method_13_code 10 = .ok (.iconst 0, 1) := by decide +kernel
theorem d_Rd_readSum_11 : decode prog_5_method_13_code 11 = .ok (.istore_n 2, 1) := by decide +kernel
theorem d_Rd_readSum_12 : decode prog_5_method_13_code 12 = .ok (.iload_n 2, 1) := by decide +kernel
theorem d_Rd_readSum_13 : decode prog_5_method_13_code 13 = .ok (.sipush 240, 3) := by decide +kernel
theorem d_Rd_readSum_19 : decode prog_5_method_13_code 19 = .ok (.aload_n 0, 1) := by decide +kernel
theorem d_Rd_readSum_20 : decode prog_5_method_13_code 20 = .ok (.ldc 122, 2) := by decide +kernel
theorem d_Rd_readSum_22 : decode prog_5_method_13_code 22 = .ok (.invokevirtual 79, 3) := by decide +kernel
theorem d_Rd_readSum_28 : decode prog_5_method_13_code 28 = .ok (.aload_n 0, 1) := by decide +kernel
theorem d_Rd_readSum_29 : decode prog_5_method_13_code 29 = .ok (.invokevirtual 58, 3) := by decide +kernel
theorem d_Rd_readSum_32 : decode prog_5_method_13_code 32 = .ok (.istore_n 3, 1) := by decide +kernel
theorem d_Rd_readSum_33 : decode prog_5_method_13_code 33 = .ok (.aload_n 0, 1) := by decide +kernel
theorem d_Rd_readSum_34 : decode prog_5_method_13_code 34 = .ok (.dup, 1) := by decide +kernel
theorem d_Rd_readSum_35 : decode prog_5_method_13_code 35 = .ok (.getfield 19, 3) := by decide +kernel
theorem d_Rd_readSum_38 : decode prog_5_method_13_code 38 = .ok (.iconst 1, 1) := by decide +kernel
theorem d_Rd_readSum_39 : decode prog_5_method_13_code 39 = .ok (.iadd, 1) := by decide +kernel
theorem d_Rd_readSum_40 : decode prog_5_method_13_code 40 = .ok (.putfield 19, 3) := by decide +kernel
theorem d_Rd_readSum_43 : decode prog_5_method_13_code 43 = .ok (.aload_n 0, 1) := by decide +kernel
theorem d_Rd_readSum_44 : decode prog_5_method_13_code 44 = .ok (.iload_n 1, 1) := by decide +kernel
theorem d_Rd_readSum_45 : decode prog_5_method_13_code 45 = .ok (.invokevirtual 119, 3) := by decide +kernel
theorem d_Rd_readSum_53 : decode prog_5_method_13_code 53 = .ok (.aload_n 0, 1) := by decide +kernel
theorem d_Rd_readSum_54 : decode prog_5_method_13_code 54 = .ok (.getfield 29, 3) := by decide +kernel
theorem d_Rd_readSum_57 : decode prog_5_method_13_code 57 = .ok (.iload_n 3, 1) := by decide +kernel
theorem d_Rd_readSum_58 : decode prog_5_method_13_code 58 = .ok (.invokevirtual 90, 3) := by decide +kernel
theorem d_Rd_readSum_61 : decode prog_5_method_13_code 61 = .ok (.iinc 2 1, 3) := by decide +kernel
theorem d_Rd_readSum_64 : decode prog_5_method_13_code 64 = .ok (.goto (-52), 3) := by decide +kernel
theorem d_Rd_readSum_51 : decode prog_5_method_13_code 51 = .ok (.iconst 0, 1) := by decide +kernel
theorem d_Rd_readSum_52 : decode prog_5_method_13_code 52 = .ok (.ireturn, 1) := by decide +kernel
theorem d_Rd_readSum_48 : decode prog_5_method_13_code 48 = .ok (.ifCond .ne 5, 3) := by decide +kernel
theorem d_Rd_readSum_25 : decode prog_5_method_13_code 25 = .ok (.ifCond .eq 42, 3) := by decide +kernel
theorem d_Rd_readSum_16 : decode prog_5_method_13_code 16 = .ok (.if_icmp .gt 51, 3) := by decide +kernel
theorem d_Rd_readSum_67 : decode prog_5_method_13_code 67 = .ok (.iconst 1, 1) := by decide +kernel
theorem d_Rd_readSum_68 : decode prog_5_method_13_code 68 = .ok (.ireturn, 1) := by decide +kernel
theorem d_Rd_readSum_8 : decode prog_5_method_13_code 8 = .ok (.iconst 0, 1) := by decide +kernel
theorem d_Rd_readSum_9 : decode prog_5_method_13_code 9 = .ok (.ireturn, 1) := by decide +kernel
theorem d_Rd_readSum_5 : decode prog_5_method_13_code 5 = .ok (.ifCond .ne 5, 3) := by decide +kernel
theorem d_Rd_readTerm_0 : decode prog_5_method_14_code 0 = .ok (.aload_n 0, 1) := by decide +kernel
theorem d_Rd_readTerm_1 : decode prog_5_method_14_code 1 = .ok (.iload_n 1, 1) := by decide +kernel
theorem d_Rd_readTerm_2 : decode prog_5_method_14_code 2 = .ok (.invokevirtual 124, 3) := by decide +kernel
abbrev m_Rd_readFactor : MI := (⟨"ShadeTown$LawReader", "readFactor", "(I)Z"⟩, prog_5_method_15_code, 2, (Option.some Jvm.ClassFile.FieldType.boolean))
theorem k_Rd_readFactor : MOk m_Rd_readFactor 1 ∧ IOk m_Rd_readFactor := ⟨⟨atG 618 (by decide +kernel) rfl, atG 114 (by decide +kernel) rfl, ⟨by decide, by decide⟩, by decide +kernel, by decide⟩, atG 617 (by decide +kernel) rfl, atG 7 (by decide +kernel) rfl⟩
theorem lk_Rd_124 : Cond.methodLink "ShadeTown$LawReader" 124 ⟨"ShadeTown$LawReader", "readFactor", "(I)Z"⟩ ∈ tblG := atG 615 (by decide +kernel) rfl
theorem d_Rd_readTerm_10 : decode prog_5_method_14_code 10 = .ok (.iconst 0, 1) := by decide +kernel
theorem d_Rd_readTerm_11 : decode prog_5_method_14_code 11 = .ok (.istore_n 2, 1) := by decide +kernel
theorem d_Rd_readTerm_12 : decode prog_5_method_14_code 12 = .ok (.iload_n 2, 1) := by decide +kernel
theorem d_Rd_readTerm_13 : decode prog_5_method_14_code 13 = .ok (.sipush 240, 3) := by decide +kernel
theorem d_Rd_readTerm_19 : decode prog_5_method_14_code 19 = .ok (.aload_n 0, 1) := by decide +kernel
theorem d_Rd_readTerm_20 : decode prog_5_method_14_code 20 = .ok (.ldc 127, 2) := by decide +kernel
theorem d_Rd_readTerm_22 : decode prog_5_method_14_code 22 = .ok (.invokevirtual 79, 3) := by decide +kernel
theorem d_Rd_readTerm_28 : decode prog_5_method_14_code 28 = .ok (.aload_n 0, 1) := by decide +kernel
theorem d_Rd_readTerm_29 : decode prog_5_method_14_code 29 = .ok (.invokevirtual 58, 3) := by decide +kernel
theorem d_Rd_readTerm_32 : decode prog_5_method_14_code 32 = .ok (.istore_n 3, 1) := by decide +kernel
theorem d_Rd_readTerm_33 : decode prog_5_method_14_code 33 = .ok (.aload_n 0, 1) := by decide +kernel
theorem d_Rd_readTerm_34 : decode prog_5_method_14_code 34 = .ok (.dup, 1) := by decide +kernel
theorem d_Rd_readTerm_35 : decode prog_5_method_14_code 35 = .ok (.getfield 19, 3) := by decide +kernel
theorem d_Rd_readTerm_38 : decode prog_5_method_14_code 38 = .ok (.iconst 1, 1) := by decide +kernel
theorem d_Rd_readTerm_39 : decode prog_5_method_14_code 39 = .ok (.iadd, 1) := by decide +kernel
theorem d_Rd_readTerm_40 : decode prog_5_method_14_code 40 = .ok (.putfield 19, 3) := by decide +kernel
theorem d_Rd_readTerm_43 : decode prog_5_method_14_code 43 = .ok (.aload_n 0, 1) := by decide +kernel
theorem d_Rd_readTerm_44 : decode prog_5_method_14_code 44 = .ok (.iload_n 1, 1) := by decide +kernel
theorem d_Rd_readTerm_45 : decode prog_5_method_14_code 45 = .ok (.invokevirtual 124, 3) := by decide +kernel
theorem d_Rd_readTerm_53 : decode prog_5_method_14_code 53 = .ok (.aload_n 0, 1) := by decide +kernel
theorem d_Rd_readTerm_54 : decode prog_5_method_14_code 54 = .ok (.getfield 29, 3) := by decide +kernel
theorem d_Rd_readTerm_57 : decode prog_5_method_14_code 57 = .ok (.iload_n 3, 1) := by decide +kernel
theorem d_Rd_readTerm_58 : decode prog_5_method_14_code 58 = .ok (.invokevirtual 90, 3) := by decide +kernel
theorem d_Rd_readTerm_61 : decode prog_5_method_14_code 61 = .ok (.iinc 2 1, 3) := by decide +kernel
theorem d_Rd_readTerm_64 : decode prog_5_method_14_code 64 = .ok (.goto (-52), 3) := by decide +kernel
theorem d_Rd_readTerm_51 : decode prog_5_method_14_code 51 = .ok (.iconst 0, 1) := by decide +kernel
theorem d_Rd_readTerm_52 : decode prog_5_method_14_code 52 = .ok (.ireturn, 1) := by decide +kernel
theorem d_Rd_readTerm_48 : decode prog_5_method_14_code 48 = .ok (.ifCond .ne 5, 3) := by decide +kernel
theorem d_Rd_readTerm_25 : decode prog_5_method_14_code 25 = .ok (.ifCond .eq 42, 3) := by decide +kernel
theorem d_Rd_readTerm_16 : decode prog_5_method_14_code 16 = .ok (.if_icmp .gt 51, 3) := by decide +kernel
theorem d_Rd_readTerm_67 : decode prog_5_method_14_code 67 = .ok (.iconst 1, 1) := by decide +kernel
theorem d_Rd_readTerm_68 : decode prog_5_method_14_code 68 = .ok (.ireturn, 1) := by decide +kernel
theorem d_Rd_readTerm_8 : decode prog_5_method_14_code 8 = .ok (.iconst 0, 1) := by decide +kernel
theorem d_Rd_readTerm_9 : decode prog_5_method_14_code 9 = .ok (.ireturn, 1) := by decide +kernel
theorem d_Rd_readTerm_5 : decode prog_5_method_14_code 5 = .ok (.ifCond .ne 5, 3) := by decide +kernel
theorem d_Rd_readFactor_0 : decode prog_5_method_15_code 0 = .ok (.aload_n 0, 1) := by decide +kernel
theorem d_Rd_readFactor_1 : decode prog_5_method_15_code 1 = .ok (.invokevirtual 58, 3) := by decide +kernel
theorem d_Rd_readFactor_4 : decode prog_5_method_15_code 4 = .ok (.bipush 91, 2) := by decide +kernel
theorem d_Rd_readFactor_42 : decode prog_5_method_15_code 42 = .ok (.aload_n 0, 1) := by decide +kernel
theorem d_Rd_readFactor_43 : decode prog_5_method_15_code 43 = .ok (.invokevirtual 129, 3) := by decide +kernel
theorem d_Rd_readFactor_54 : decode prog_5_method_15_code 54 = .ok (.aload_n 0, 1) := by decide +kernel
theorem d_Rd_readFactor_55 : decode prog_5_method_15_code 55 = .ok (.ldc 135, 2) := by decide +kernel
theorem d_Rd_readFactor_57 : decode prog_5_method_15_code 57 = .ok (.invokevirtual 79, 3) := by decide +kernel
theorem d_Rd_readFactor_69 : decode prog_5_method_15_code 69 = .ok (.aload_n 0, 1) := by decide +kernel
theorem d_Rd_readFactor_70 : decode prog_5_method_15_code 70 = .ok (.getfield 29, 3) := by decide +kernel
theorem d_Rd_readFactor_73 : decode prog_5_method_15_code 73 = .ok (.iconst 2, 1) := by decide +kernel
theorem d_Rd_readFactor_74 : decode prog_5_method_15_code 74 = .ok (.invokevirtual 90, 3) := by decide +kernel
theorem d_Rd_readFactor_77 : decode prog_5_method_15_code 77 = .ok (.aload_n 0, 1) := by decide +kernel
theorem d_Rd_readFactor_78 : decode prog_5_method_15_code 78 = .ok (.getfield 29, 3) := by decide +kernel
theorem d_Rd_readFactor_81 : decode prog_5_method_15_code 81 = .ok (.ldc 135, 2) := by decide +kernel
theorem d_Rd_readFactor_83 : decode prog_5_method_15_code 83 = .ok (.aload_n 0, 1) := by decide +kernel
theorem d_Rd_readFactor_84 : decode prog_5_method_15_code 84 = .ok (.invokevirtual 58, 3) := by decide +kernel
theorem d_Rd_readFactor_87 : decode prog_5_method_15_code 87 = .ok (.i2c, 1) := by decide +kernel
theorem d_Rd_readFactor_88 : decode prog_5_method_15_code 88 = .ok (.invokevirtual 61, 3) := by decide +kernel
theorem d_Rd_readFactor_91 : decode prog_5_method_15_code 91 = .ok (.invokevirtual 90, 3) := by decide +kernel
theorem d_Rd_readFactor_94 : decode prog_5_method_15_code 94 = .ok (.aload_n 0, 1) := by decide +kernel
theorem d_Rd_readFactor_95 : decode prog_5_method_15_code 95 = .ok (.dup, 1) := by decide +kernel
theorem d_Rd_readFactor_96 : decode prog_5_method_15_code 96 = .ok (.getfield 19, 3) := by decide +kernel
theorem d_Rd_readFactor_99 : decode prog_5_method_15_code 99 = .ok (.iconst 1, 1) := by decide +kernel
theorem d_Rd_readFactor_100 : decode prog_5_method_15_code 100 = .ok (.iadd, 1) := by decide +kernel
theorem d_Rd_readFactor_101 : decode prog_5_method_15_code 101 = .ok (.putfield 19, 3) := by decide +kernel
theorem d_Rd_readFactor_104 : decode prog_5_method_15_code 104 = .ok (.iconst 1, 1) := by decide +kernel
theorem d_Rd_readFactor_105 : decode prog_5_method_15_code 105 = .ok (.ireturn, 1) := by decide +kernel
theorem d_Rd_readFactor_63 : decode prog_5_method_15_code 63 = .ok (.aload_n 0, 1) := by decide +kernel
theorem d_Rd_readFactor_64 : decode prog_5_method_15_code 64 = .ok (.iconst 1, 1) := by decide +kernel
theorem d_Rd_readFactor_65 : decode prog_5_method_15_code 65 = .ok (.invokevirtual 66, 3) := by decide +kernel
theorem d_Rd_readFactor_68 : decode prog_5_method_15_code 68 = .ok (.ireturn, 1) := by decide +kernel
theorem d_Rd_readFactor_60 : decode prog_5_method_15_code 60 = .ok (.ifCond .ne 9, 3) := by decide +kernel
theorem d_Rd_readFactor_49 : decode prog_5_method_15_code 49 = .ok (.aload_n 0, 1) := by decide +kernel
theorem d_Rd_readFactor_50 : decode prog_5_method_15_code 50 = .ok (.invokevirtual 132, 3) := by decide +kernel
theorem k_Rd_readNumber : MOk m_Rd_readNumber 0 ∧ IOk m_Rd_readNumber := ⟨⟨atG 634 (by decide +kernel) rfl, atG 114 (by decide +kernel) rfl, ⟨by decide, by decide⟩, by decide +kernel, by decide⟩, atG 633 (by decide +kernel) rfl, atG 11 (by decide +kernel) rfl⟩
theorem lk_Rd_132 : Cond.methodLink "ShadeTown$LawReader" 132 ⟨"ShadeTown$LawReader", "readNumber", "()Z"⟩ ∈ tblG := atG 631 (by decide +kernel) rfl
theorem d_Rd_readFactor_53 : decode prog_5_method_15_code 53 = .ok (.ireturn, 1) := by decide +kernel
theorem d_Rd_readFactor_46 : decode prog_5_method_15_code 46 = .ok (.ifCond .eq 8, 3) := by decide +kernel
theorem d_Rd_readFactor_9 : decode prog_5_method_15_code 9 = .ok (.aload_n 0, 1) := by decide +kernel
theorem d_Rd_readFactor_10 : decode prog_5_method_15_code 10 = .ok (.iload_n 1, 1) := by decide +kernel
theorem d_Rd_readFactor_11 : decode prog_5_method_15_code 11 = .ok (.invokevirtual 114, 3) := by decide +kernel
theorem d_Rd_readFactor_40 : decode prog_5_method_15_code 40 = .ok (.iconst 0, 1) := by decide +kernel
theorem d_Rd_readFactor_41 : decode prog_5_method_15_code 41 = .ok (.ireturn, 1) := by decide +kernel
theorem d_Rd_readFactor_17 : decode prog_5_method_15_code 17 = .ok (.aload_n 0, 1) := by decide +kernel
theorem d_Rd_readFactor_18 : decode prog_5_method_15_code 18 = .ok (.iload_n 1, 1) := by decide +kernel
theorem d_Rd_readFactor_19 : decode prog_5_method_15_code 19 = .ok (.iconst 1, 1) := by decide +kernel
theorem d_Rd_readFactor_20 : decode prog_5_method_15_code 20 = .ok (.iadd, 1) := by decide +kernel
theorem d_Rd_readFactor_21 : decode prog_5_method_15_code 21 = .ok (.invokevirtual 87, 3) := by decide +kernel
theorem d_Rd_readFactor_27 : decode prog_5_method_15_code 27 = .ok (.aload_n 0, 1) := by decide +kernel
theorem d_Rd_readFactor_28 : decode prog_5_method_15_code 28 = .ok (.bipush 93, 2) := by decide +kernel
theorem d_Rd_readFactor_30 : decode prog_5_method_15_code 30 = .ok (.invokevirtual 73, 3) := by decide +kernel
theorem d_Rd_readFactor_36 : decode prog_5_method_15_code 36 = .ok (.iconst 1, 1) := by decide +kernel
theorem d_Rd_readFactor_37 : decode prog_5_method_15_code 37 = .ok (.goto 4, 3) := by decide +kernel
theorem d_Rd_readFactor_33 : decode prog_5_method_15_code 33 = .ok (.ifCond .eq 7, 3) := by decide +kernel
theorem d_Rd_readFactor_24 : decode prog_5_method_15_code 24 = .ok (.ifCond .eq 16, 3) := by decide +kernel
theorem d_Rd_readFactor_14 : decode prog_5_method_15_code 14 = .ok (.ifCond .eq 26, 3) := by decide +kernel
theorem d_Rd_readFactor_6 : decode prog_5_method_15_code 6 = .ok (.if_icmp .ne 36, 3) := by decide +kernel
abbrev GT : Type := Nat → Mem → Int32 → Option (Int32 × Mem)
def mtag (t : Nat) : MI := match t with
  | 0 => m_Rd_readParts
  | 1 => m_Rd_readPieces
  | 2 => m_Rd_readPiece
  | 3 => m_Rd_readSum
  | 4 => m_Rd_readTerm
  | 5 => m_Rd_readFactor
  | _ => m_Rd_readParts
def HG (Z : ZX) (K : Nat) (G : GT) : Prop := ∀ (t : Nat) (σ : Mem) (a r : Int32) (σ' : Mem), G t σ a = some (r, σ') → CI Z (4 + K) (mtag t) [rf Z 17, .int a] σ r σ'
def B_Rd_readParts_l4 (N : Nat) (G : GT) (a1 : Int32) (rec : Int32 → Int32 → Mem → Option (Int32 × Mem)) (x2 : Int32) (x3 : Int32) (σ : Mem) : Option (Int32 × Mem) :=
  if 240 < x3 then
    (bnd2 (f_Rd_fail σ 1) fun r68 σ68 =>
    grd (decide (r68 &&& 1 = r68)) (some (r68, σ68)))
  else
    (bnd2 (G 1 σ a1) fun r13 σ13 =>
    if r13 = 0 then
      (some (0, σ13))
    else
      (bnd1 (f_Rd_sign σ13) fun r22 =>
      if r22 = 124 then
        (letv (sI σ13 17 4 ((mI σ13 17 4) + 1)) fun σ47 =>
        bnd2 (f_La_putJump_b σ47 4 x2) fun r56 σ56 =>
        letv (x3 + 1) fun v60 =>
        rec r56 v60 σ56)
      else
        (bnd1 (f_La_aimHere_b N σ13 x2) fun σ35 =>
        some (1, σ35))))
def L_Rd_readParts_l4 (N : Nat) (G : GT) (a1 : Int32) : Nat → Int32 → Int32 → Mem → Option (Int32 × Mem)
  | 0, _, _, _ => none
  | k + 1, x2, x3, σ => B_Rd_readParts_l4 N G a1 (L_Rd_readParts_l4 N G a1 k) x2 x3 σ
set_option maxHeartbeats 4000000 in
set_option maxRecDepth 20000 in
theorem cL_Rd_readParts_l4 (Z : ZX) {Y : YX} {post : Option Value → Mem → Prop} {N : Nat} {a1 : Int32} {K : Nat} {G : GT} (hG : HG Z K G) {Good : Int32 × Mem → Prop} (hR : ∀ (v : Int32) (σr : Mem), Good (v, σr) → post (some (.int v)) σr) : ∀ (k : Nat) (x2 : Int32) (x3 : Int32) (σ : Mem) (res : Int32 × Mem), L_Rd_readParts_l4 N G a1 k x2 x3 σ = some res → Good res → V (mkB Z) Y m_Rd_readParts (4 + K + 1) (QP (mkB Z) Y nC 0 0 post) 0 0 nC σ 4 [(0, rf Z 17), (1, .int a1), (2, .int x2), (3, .int x3)] [] := by
  intro k
  induction k with
  | zero => intro x2 x3 σ res h; cases h
  | succ k ih =>
    intro x2 x3 σ res h hg
    replace h : B_Rd_readParts_l4 N G a1 (L_Rd_readParts_l4 N G a1 k) x2 x3 σ = some res := h
    unfold B_Rd_readParts_l4 at h
    refine V.iload_n d_Rd_readParts_4 rfl 3 rfl ?_
    refine V.sipush (v := 240) d_Rd_readParts_5 (by decide) ?_
    refine V.icmp_gt (tgt := 66) d_Rd_readParts_8 (by decide) (fun hc8 => ?_) (fun hc8 => ?_)
    · replace h := ite_t hc8 h
      refine V.aload_n d_Rd_readParts_66 rfl 0 rfl ?_
      refine V.iconst (v := 1) d_Rd_readParts_67 (by decide) ?_
      obtain ⟨r68, σ68, h1, h⟩ := bnd2_e h
      refine V.vI (as := [.int 1]) (st := []) (c_Rd_fail Z h1) k_Rd_fail lk_Rd_66 (by omega) rfl (by decide) ly_17 ok_Rd.1 rfl (Nat.le_of_ble_eq_true rfl) d_Rd_readParts_68 ?_
      obtain ⟨hz, h⟩ := grd_e h
      have hz := congrArg Value.int (of_decide_eq_true hz)
      cases h
      exact V.zret rfl hz d_Rd_readParts_71 (hR _ _ hg)
    · replace h := ite_f hc8 h
      refine V.aload_n d_Rd_readParts_11 rfl 0 rfl ?_
      refine V.iload_n d_Rd_readParts_12 rfl 1 rfl ?_
      obtain ⟨r13, σ13, h1, h⟩ := bnd2_e h
      refine V.vI (as := [.int a1]) (st := []) (hG 1 _ _ _ _ h1) k_Rd_readPieces lk_Rd_102 (by omega) rfl (by decide) ly_17 ok_Rd.1 rfl (Nat.le_of_ble_eq_true rfl) d_Rd_readParts_13 ?_
      refine V.if_ne (tgt := 21) d_Rd_readParts_16 (by decide) (fun hc16 => ?_) (fun hc16 => ?_)
      · replace h := ite_f hc16 h
        refine V.aload_n d_Rd_readParts_21 rfl 0 rfl ?_
        obtain ⟨r22, h1, h⟩ := bnd1_e h
        refine V.vI (as := []) (st := []) (c_Rd_sign Z h1) k_Rd_sign lk_Rd_58 (by omega) rfl (by decide) ly_17 ok_Rd.1 rfl (Nat.le_of_ble_eq_true rfl) d_Rd_readParts_22 ?_
        refine V.bipush (v := 124) d_Rd_readParts_25 (by decide) ?_
        refine V.icmp_eq (tgt := 40) d_Rd_readParts_27 (by decide) (fun hc27 => ?_) (fun hc27 => ?_)
        · replace h := ite_t hc27 h
          refine V.aload_n d_Rd_readParts_40 rfl 0 rfl ?_
          refine V.dup d_Rd_readParts_41 rfl ?_
          refine V.getI ok_Rd fl_Rd_19 (by decide) (by decide) ly_17 rfl d_Rd_readParts_42 ?_
          refine V.iconst (v := 1) d_Rd_readParts_45 (by decide) ?_
          refine V.iadd d_Rd_readParts_46 ?_
          obtain ⟨σ47, e_σ47, h⟩ := letv_e h
          refine V.putI ok_Rd fl_Rd_19 (by decide) (by decide) ly_17 rfl rfl rfl rfl d_Rd_readParts_47 (V.mem e_σ47 ?_)
          refine V.aload_n d_Rd_readParts_50 rfl 0 rfl ?_
          refine V.getR (r := 10) ok_Rd fl_Rd_29 (by decide) (by decide) ly_17 rfl d_Rd_readParts_51 ?_
          refine V.iconst (v := 4) d_Rd_readParts_54 (by decide) ?_
          refine V.iload_n d_Rd_readParts_55 rfl 2 rfl ?_
          obtain ⟨r56, σ56, h1, h⟩ := bnd2_e h
          refine V.vI (as := [.int 4, .int x2]) (st := []) (c_La_putJump_b Z h1) k_La_putJump lk_Rd_108 (by omega) rfl (by decide) ly_10 ok_La.1 rfl (Nat.le_of_ble_eq_true rfl) d_Rd_readParts_56 ?_
          refine V.istore_n (lv' := [(2, .int r56), (0, rf Z 17), (1, .int a1), (3, .int x3)]) d_Rd_readParts_59 rfl (by decide) rfl ?_
          obtain ⟨v60, e_v60, h⟩ := letv_e h
          refine V.iinc (v := v60) (lv' := [(3, .int v60), (2, .int r56), (0, rf Z 17), (1, .int a1)]) d_Rd_readParts_60 3 rfl (by rw [e_v60]; rfl) (by decide) rfl ?_
          refine V.goto (tgt := 4) d_Rd_readParts_63 (by decide) ?_
          exact V.pick [2, 3, 1, 0] rfl (ih _ _ _ _ h hg)
        · replace h := ite_f hc27 h
          refine V.aload_n d_Rd_readParts_30 rfl 0 rfl ?_
          refine V.getR (r := 10) ok_Rd fl_Rd_29 (by decide) (by decide) ly_17 rfl d_Rd_readParts_31 ?_
          refine V.iload_n d_Rd_readParts_34 rfl 2 rfl ?_
          obtain ⟨σ35, h1, h⟩ := bnd1_e h
          refine V.vN (as := [.int x2]) (st := []) (c_La_aimHere_b Z h1) k_La_aimHere lk_Rd_105 (by omega) rfl (by decide) ly_10 ok_La.1 rfl (Nat.le_of_ble_eq_true rfl) d_Rd_readParts_35 ?_
          refine V.iconst (v := 1) d_Rd_readParts_38 (by decide) ?_
          cases h
          exact V.zret rfl rfl d_Rd_readParts_39 (hR _ _ hg)
      · replace h := ite_t hc16 h
        refine V.iconst (v := 0) d_Rd_readParts_19 (by decide) ?_
        cases h
        exact V.zret rfl rfl d_Rd_readParts_20 (hR _ _ hg)
def f_Rd_readParts (N : Nat) (G : GT) (σ : Mem) (a1 : Int32) : Option (Int32 × Mem) :=
  L_Rd_readParts_l4 N G a1 N (-1) 0 σ
set_option maxHeartbeats 4000000 in
set_option maxRecDepth 20000 in
theorem c_Rd_readParts (Z : ZX) {N K : Nat} {G : GT} (hG : HG Z K G) {σ : Mem} {a1 : Int32} {r : Int32} {σ' : Mem} (h : f_Rd_readParts N G σ a1 = some (r, σ')) : CI Z (4 + K + 1) m_Rd_readParts [rf Z 17, .int a1] σ r σ' := by
  refine Ct.of (by decide +kernel) (Nat.le_of_ble_eq_true rfl) (fun Y => ?_)
  show V (mkB Z) Y m_Rd_readParts (4 + K + 1) (QP (mkB Z) Y nC 0 0 (fun v t => v = some (.int r) ∧ t = σ')) 0 0 nC σ 0 [(0, rf Z 17), (1, .int a1)] []
  unfold f_Rd_readParts at h
  refine V.iconst (v := (-1)) d_Rd_readParts_0 (by decide) ?_
  refine V.istore_n (lv' := [(2, .int (-1)), (0, rf Z 17), (1, .int a1)]) d_Rd_readParts_1 rfl (by decide) rfl ?_
  refine V.iconst (v := 0) d_Rd_readParts_2 (by decide) ?_
  refine V.istore_n (lv' := [(3, .int 0), (2, .int (-1)), (0, rf Z 17), (1, .int a1)]) d_Rd_readParts_3 rfl (by decide) rfl ?_
  refine V.pick [2, 3, 1, 0] rfl (cL_Rd_readParts_l4 Z hG (Good := fun z => z = _) (fun r4v r4m he => ?_) N _ _ _ _ h rfl)
  · cases he
    exact ⟨rfl, rfl⟩
def B_Rd_readPieces_l4 (N : Nat) (G : GT) (a1 : Int32) (rec : Int32 → Int32 → Mem → Option (Int32 × Mem)) (x2 : Int32) (x3 : Int32) (σ : Mem) : Option (Int32 × Mem) :=
  if 240 < x3 then
    (bnd2 (f_Rd_fail σ 1) fun r68 σ68 =>
    grd (decide (r68 &&& 1 = r68)) (some (r68, σ68)))
  else
    (bnd2 (G 2 σ a1) fun r13 σ13 =>
    if r13 = 0 then
      (some (0, σ13))
    else
      (bnd1 (f_Rd_sign σ13) fun r22 =>
      if r22 = 38 then
        (letv (sI σ13 17 4 ((mI σ13 17 4) + 1)) fun σ47 =>
        bnd2 (f_La_putJump_b σ47 3 x2) fun r56 σ56 =>
        letv (x3 + 1) fun v60 =>
        rec r56 v60 σ56)
      else
        (bnd1 (f_La_aimHere_b N σ13 x2) fun σ35 =>
        some (1, σ35))))
def L_Rd_readPieces_l4 (N : Nat) (G : GT) (a1 : Int32) : Nat → Int32 → Int32 → Mem → Option (Int32 × Mem)
  | 0, _, _, _ => none
  | k + 1, x2, x3, σ => B_Rd_readPieces_l4 N G a1 (L_Rd_readPieces_l4 N G a1 k) x2 x3 σ
set_option maxHeartbeats 4000000 in
set_option maxRecDepth 20000 in
theorem cL_Rd_readPieces_l4 (Z : ZX) {Y : YX} {post : Option Value → Mem → Prop} {N : Nat} {a1 : Int32} {K : Nat} {G : GT} (hG : HG Z K G) {Good : Int32 × Mem → Prop} (hR : ∀ (v : Int32) (σr : Mem), Good (v, σr) → post (some (.int v)) σr) : ∀ (k : Nat) (x2 : Int32) (x3 : Int32) (σ : Mem) (res : Int32 × Mem), L_Rd_readPieces_l4 N G a1 k x2 x3 σ = some res → Good res → V (mkB Z) Y m_Rd_readPieces (4 + K + 1) (QP (mkB Z) Y nC 0 0 post) 0 0 nC σ 4 [(0, rf Z 17), (1, .int a1), (2, .int x2), (3, .int x3)] [] := by
  intro k
  induction k with
  | zero => intro x2 x3 σ res h; cases h
  | succ k ih =>
    intro x2 x3 σ res h hg
    replace h : B_Rd_readPieces_l4 N G a1 (L_Rd_readPieces_l4 N G a1 k) x2 x3 σ = some res := h
    unfold B_Rd_readPieces_l4 at h
    refine V.iload_n d_Rd_readPieces_4 rfl 3 rfl ?_
    refine V.sipush (v := 240) d_Rd_readPieces_5 (by decide) ?_
    refine V.icmp_gt (tgt := 66) d_Rd_readPieces_8 (by decide) (fun hc8 => ?_) (fun hc8 => ?_)
    · replace h := ite_t hc8 h
      refine V.aload_n d_Rd_readPieces_66 rfl 0 rfl ?_
      refine V.iconst (v := 1) d_Rd_readPieces_67 (by decide) ?_
      obtain ⟨r68, σ68, h1, h⟩ := bnd2_e h
      refine V.vI (as := [.int 1]) (st := []) (c_Rd_fail Z h1) k_Rd_fail lk_Rd_66 (by omega) rfl (by decide) ly_17 ok_Rd.1 rfl (Nat.le_of_ble_eq_true rfl) d_Rd_readPieces_68 ?_
      obtain ⟨hz, h⟩ := grd_e h
      have hz := congrArg Value.int (of_decide_eq_true hz)
      cases h
      exact V.zret rfl hz d_Rd_readPieces_71 (hR _ _ hg)
    · replace h := ite_f hc8 h
      refine V.aload_n d_Rd_readPieces_11 rfl 0 rfl ?_
      refine V.iload_n d_Rd_readPieces_12 rfl 1 rfl ?_
      obtain ⟨r13, σ13, h1, h⟩ := bnd2_e h
      refine V.vI (as := [.int a1]) (st := []) (hG 2 _ _ _ _ h1) k_Rd_readPiece lk_Rd_111 (by omega) rfl (by decide) ly_17 ok_Rd.1 rfl (Nat.le_of_ble_eq_true rfl) d_Rd_readPieces_13 ?_
      refine V.if_ne (tgt := 21) d_Rd_readPieces_16 (by decide) (fun hc16 => ?_) (fun hc16 => ?_)
      · replace h := ite_f hc16 h
        refine V.aload_n d_Rd_readPieces_21 rfl 0 rfl ?_
        obtain ⟨r22, h1, h⟩ := bnd1_e h
        refine V.vI (as := []) (st := []) (c_Rd_sign Z h1) k_Rd_sign lk_Rd_58 (by omega) rfl (by decide) ly_17 ok_Rd.1 rfl (Nat.le_of_ble_eq_true rfl) d_Rd_readPieces_22 ?_
        refine V.bipush (v := 38) d_Rd_readPieces_25 (by decide) ?_
        refine V.icmp_eq (tgt := 40) d_Rd_readPieces_27 (by decide) (fun hc27 => ?_) (fun hc27 => ?_)
        · replace h := ite_t hc27 h
          refine V.aload_n d_Rd_readPieces_40 rfl 0 rfl ?_
          refine V.dup d_Rd_readPieces_41 rfl ?_
          refine V.getI ok_Rd fl_Rd_19 (by decide) (by decide) ly_17 rfl d_Rd_readPieces_42 ?_
          refine V.iconst (v := 1) d_Rd_readPieces_45 (by decide) ?_
          refine V.iadd d_Rd_readPieces_46 ?_
          obtain ⟨σ47, e_σ47, h⟩ := letv_e h
          refine V.putI ok_Rd fl_Rd_19 (by decide) (by decide) ly_17 rfl rfl rfl rfl d_Rd_readPieces_47 (V.mem e_σ47 ?_)
          refine V.aload_n d_Rd_readPieces_50 rfl 0 rfl ?_
          refine V.getR (r := 10) ok_Rd fl_Rd_29 (by decide) (by decide) ly_17 rfl d_Rd_readPieces_51 ?_
          refine V.iconst (v := 3) d_Rd_readPieces_54 (by decide) ?_
          refine V.iload_n d_Rd_readPieces_55 rfl 2 rfl ?_
          obtain ⟨r56, σ56, h1, h⟩ := bnd2_e h
          refine V.vI (as := [.int 3, .int x2]) (st := []) (c_La_putJump_b Z h1) k_La_putJump lk_Rd_108 (by omega) rfl (by decide) ly_10 ok_La.1 rfl (Nat.le_of_ble_eq_true rfl) d_Rd_readPieces_56 ?_
          refine V.istore_n (lv' := [(2, .int r56), (0, rf Z 17), (1, .int a1), (3, .int x3)]) d_Rd_readPieces_59 rfl (by decide) rfl ?_
          obtain ⟨v60, e_v60, h⟩ := letv_e h
          refine V.iinc (v := v60) (lv' := [(3, .int v60), (2, .int r56), (0, rf Z 17), (1, .int a1)]) d_Rd_readPieces_60 3 rfl (by rw [e_v60]; rfl) (by decide) rfl ?_
          refine V.goto (tgt := 4) d_Rd_readPieces_63 (by decide) ?_
          exact V.pick [2, 3, 1, 0] rfl (ih _ _ _ _ h hg)
        · replace h := ite_f hc27 h
          refine V.aload_n d_Rd_readPieces_30 rfl 0 rfl ?_
          refine V.getR (r := 10) ok_Rd fl_Rd_29 (by decide) (by decide) ly_17 rfl d_Rd_readPieces_31 ?_
          refine V.iload_n d_Rd_readPieces_34 rfl 2 rfl ?_
          obtain ⟨σ35, h1, h⟩ := bnd1_e h
          refine V.vN (as := [.int x2]) (st := []) (c_La_aimHere_b Z h1) k_La_aimHere lk_Rd_105 (by omega) rfl (by decide) ly_10 ok_La.1 rfl (Nat.le_of_ble_eq_true rfl) d_Rd_readPieces_35 ?_
          refine V.iconst (v := 1) d_Rd_readPieces_38 (by decide) ?_
          cases h
          exact V.zret rfl rfl d_Rd_readPieces_39 (hR _ _ hg)
      · replace h := ite_t hc16 h
        refine V.iconst (v := 0) d_Rd_readPieces_19 (by decide) ?_
        cases h
        exact V.zret rfl rfl d_Rd_readPieces_20 (hR _ _ hg)
def f_Rd_readPieces (N : Nat) (G : GT) (σ : Mem) (a1 : Int32) : Option (Int32 × Mem) :=
  L_Rd_readPieces_l4 N G a1 N (-1) 0 σ
set_option maxHeartbeats 4000000 in
set_option maxRecDepth 20000 in
theorem c_Rd_readPieces (Z : ZX) {N K : Nat} {G : GT} (hG : HG Z K G) {σ : Mem} {a1 : Int32} {r : Int32} {σ' : Mem} (h : f_Rd_readPieces N G σ a1 = some (r, σ')) : CI Z (4 + K + 1) m_Rd_readPieces [rf Z 17, .int a1] σ r σ' := by
  refine Ct.of (by decide +kernel) (Nat.le_of_ble_eq_true rfl) (fun Y => ?_)
  show V (mkB Z) Y m_Rd_readPieces (4 + K + 1) (QP (mkB Z) Y nC 0 0 (fun v t => v = some (.int r) ∧ t = σ')) 0 0 nC σ 0 [(0, rf Z 17), (1, .int a1)] []
  unfold f_Rd_readPieces at h
  refine V.iconst (v := (-1)) d_Rd_readPieces_0 (by decide) ?_
  refine V.istore_n (lv' := [(2, .int (-1)), (0, rf Z 17), (1, .int a1)]) d_Rd_readPieces_1 rfl (by decide) rfl ?_
  refine V.iconst (v := 0) d_Rd_readPieces_2 (by decide) ?_
  refine V.istore_n (lv' := [(3, .int 0), (2, .int (-1)), (0, rf Z 17), (1, .int a1)]) d_Rd_readPieces_3 rfl (by decide) rfl ?_
  refine V.pick [2, 3, 1, 0] rfl (cL_Rd_readPieces_l4 Z hG (Good := fun z => z = _) (fun r4v r4m he => ?_) N _ _ _ _ h rfl)
  · cases he
    exact ⟨rfl, rfl⟩
def f_Rd_readPiece (N : Nat) (G : GT) (σ : Mem) (a1 : Int32) : Option (Int32 × Mem) :=
  bnd1 (f_Rd_sign σ) fun r1 =>
  if r1 = 33 then
    (bnd2 (f_Rd_stepDeeper σ a1) fun r11 σ11 =>
    if r11 = 0 then
      (some (0, σ11))
    else
      (bnd2 (G 2 σ11 (a1 + 1)) fun r21 σ21 =>
      if r21 = 0 then
        (some (0, σ21))
      else
        (bnd1 (f_La_put_b σ21 5) fun σ34 =>
        some (1, σ34))))
  else
    (bnd1 (f_Rd_sign σ) fun r40 =>
    if r40 = 40 then
      (bnd2 (f_Rd_stepDeeper σ a1) fun r50 σ50 =>
      if r50 = 0 then
        (some (0, σ50))
      else
        (bnd2 (G 0 σ50 (a1 + 1)) fun r60 σ60 =>
        if r60 = 0 then
          (some (0, σ60))
        else
          (bnd2 (f_Rd_step σ60 41) fun r69 σ69 =>
          if r69 = 0 then
            (some (0, σ69))
          else
            (some (1, σ69)))))
    else
      (bnd2 (G 3 σ a1) fun r83 σ83 =>
      if r83 = 0 then
        (some (0, σ83))
      else
        (bnd1 (f_Rd_isOneOf_s1 N σ83) fun r94 =>
        if r94 = 0 then
          (bnd2 (f_Rd_fail σ83 1) fun r102 σ102 =>
          grd (decide (r102 &&& 1 = r102)) (some (r102, σ102)))
        else
          (bnd1 (f_Rd_sign σ83) fun r107 =>
          letv (sI σ83 17 4 ((mI σ83 17 4) + 1)) fun σ118 =>
          bnd2 (G 3 σ118 a1) fun r123 σ123 =>
          if r123 = 0 then
            (some (0, σ123))
          else
            (bnd1 (f_La_put_b σ123 r107) fun σ136 =>
            some (1, σ136))))))
set_option maxHeartbeats 4000000 in
set_option maxRecDepth 20000 in
theorem c_Rd_readPiece (Z : ZX) {N K : Nat} {G : GT} (hG : HG Z K G) {σ : Mem} {a1 : Int32} {r : Int32} {σ' : Mem} (h : f_Rd_readPiece N G σ a1 = some (r, σ')) : CI Z (4 + K + 1) m_Rd_readPiece [rf Z 17, .int a1] σ r σ' := by
  refine Ct.of (by decide +kernel) (Nat.le_of_ble_eq_true rfl) (fun Y => ?_)
  show V (mkB Z) Y m_Rd_readPiece (4 + K + 1) (QP (mkB Z) Y nC 0 0 (fun v t => v = some (.int r) ∧ t = σ')) 0 0 nC σ 0 [(0, rf Z 17), (1, .int a1)] []
  unfold f_Rd_readPiece at h
  refine V.aload_n d_Rd_readPiece_0 rfl 0 rfl ?_
  obtain ⟨r1, h1, h⟩ := bnd1_e h
  refine V.vI (as := []) (st := []) (c_Rd_sign Z h1) k_Rd_sign lk_Rd_58 (by omega) rfl (by decide) ly_17 ok_Rd.1 rfl (Nat.le_of_ble_eq_true rfl) d_Rd_readPiece_1 ?_
  refine V.bipush (v := 33) d_Rd_readPiece_4 (by decide) ?_
  refine V.icmp_ne (tgt := 39) d_Rd_readPiece_6 (by decide) (fun hc6 => ?_) (fun hc6 => ?_)
  · replace h := ite_f hc6 h
    refine V.aload_n d_Rd_readPiece_39 rfl 0 rfl ?_
    obtain ⟨r40, h1, h⟩ := bnd1_e h
    refine V.vI (as := []) (st := []) (c_Rd_sign Z h1) k_Rd_sign lk_Rd_58 (by omega) rfl (by decide) ly_17 ok_Rd.1 rfl (Nat.le_of_ble_eq_true rfl) d_Rd_readPiece_40 ?_
    refine V.bipush (v := 40) d_Rd_readPiece_43 (by decide) ?_
    refine V.icmp_ne (tgt := 81) d_Rd_readPiece_45 (by decide) (fun hc45 => ?_) (fun hc45 => ?_)
    · replace h := ite_f hc45 h
      refine V.aload_n d_Rd_readPiece_81 rfl 0 rfl ?_
      refine V.iload_n d_Rd_readPiece_82 rfl 1 rfl ?_
      obtain ⟨r83, σ83, h1, h⟩ := bnd2_e h
      refine V.vI (as := [.int a1]) (st := []) (hG 3 _ _ _ _ h1) k_Rd_readSum lk_Rd_87 (by omega) rfl (by decide) ly_17 ok_Rd.1 rfl (Nat.le_of_ble_eq_true rfl) d_Rd_readPiece_83 ?_
      refine V.if_ne (tgt := 91) d_Rd_readPiece_86 (by decide) (fun hc86 => ?_) (fun hc86 => ?_)
      · replace h := ite_f hc86 h
        refine V.aload_n d_Rd_readPiece_91 rfl 0 rfl ?_
        refine V.ldcS 1 (by decide) rfl rfl d_Rd_readPiece_92 ?_
        obtain ⟨r94, h1, h⟩ := bnd1_e h
        refine V.vI (as := [.ref (bK (mkB Z) 1)]) (st := []) (c_Rd_isOneOf_s1 Z h1) k_Rd_isOneOf lk_Rd_79 (by omega) rfl (by decide) ly_17 ok_Rd.1 rfl (Nat.le_of_ble_eq_true rfl) d_Rd_readPiece_94 ?_
        refine V.if_ne (tgt := 106) d_Rd_readPiece_97 (by decide) (fun hc97 => ?_) (fun hc97 => ?_)
        · replace h := ite_f hc97 h
          refine V.aload_n d_Rd_readPiece_106 rfl 0 rfl ?_
          obtain ⟨r107, h1, h⟩ := bnd1_e h
          refine V.vI (as := []) (st := []) (c_Rd_sign Z h1) k_Rd_sign lk_Rd_58 (by omega) rfl (by decide) ly_17 ok_Rd.1 rfl (Nat.le_of_ble_eq_true rfl) d_Rd_readPiece_107 ?_
          refine V.istore_n (lv' := [(2, .int r107), (0, rf Z 17), (1, .int a1)]) d_Rd_readPiece_110 rfl (by decide) rfl ?_
          refine V.aload_n d_Rd_readPiece_111 rfl 1 rfl ?_
          refine V.dup d_Rd_readPiece_112 rfl ?_
          refine V.getI ok_Rd fl_Rd_19 (by decide) (by decide) ly_17 rfl d_Rd_readPiece_113 ?_
          refine V.iconst (v := 1) d_Rd_readPiece_116 (by decide) ?_
          refine V.iadd d_Rd_readPiece_117 ?_
          obtain ⟨σ118, e_σ118, h⟩ := letv_e h
          refine V.putI ok_Rd fl_Rd_19 (by decide) (by decide) ly_17 rfl rfl rfl rfl d_Rd_readPiece_118 (V.mem e_σ118 ?_)
          refine V.aload_n d_Rd_readPiece_121 rfl 1 rfl ?_
          refine V.iload_n d_Rd_readPiece_122 rfl 2 rfl ?_
          obtain ⟨r123, σ123, h1, h⟩ := bnd2_e h
          refine V.vI (as := [.int a1]) (st := []) (hG 3 _ _ _ _ h1) k_Rd_readSum lk_Rd_87 (by omega) rfl (by decide) ly_17 ok_Rd.1 rfl (Nat.le_of_ble_eq_true rfl) d_Rd_readPiece_123 ?_
          refine V.if_ne (tgt := 131) d_Rd_readPiece_126 (by decide) (fun hc126 => ?_) (fun hc126 => ?_)
          · replace h := ite_f hc126 h
            refine V.aload_n d_Rd_readPiece_131 rfl 1 rfl ?_
            refine V.getR (r := 10) ok_Rd fl_Rd_29 (by decide) (by decide) ly_17 rfl d_Rd_readPiece_132 ?_
            refine V.iload_n d_Rd_readPiece_135 rfl 0 rfl ?_
            obtain ⟨σ136, h1, h⟩ := bnd1_e h
            refine V.vN (as := [.int r107]) (st := []) (c_La_put_b Z h1) k_La_put lk_Rd_90 (by omega) rfl (by decide) ly_10 ok_La.1 rfl (Nat.le_of_ble_eq_true rfl) d_Rd_readPiece_136 ?_
            refine V.iconst (v := 1) d_Rd_readPiece_139 (by decide) ?_
            cases h
            exact V.zret rfl rfl d_Rd_readPiece_140 ⟨rfl, rfl⟩
          · replace h := ite_t hc126 h
            refine V.iconst (v := 0) d_Rd_readPiece_129 (by decide) ?_
            cases h
            exact V.zret rfl rfl d_Rd_readPiece_130 ⟨rfl, rfl⟩
        · replace h := ite_t hc97 h
          refine V.aload_n d_Rd_readPiece_100 rfl 0 rfl ?_
          refine V.iconst (v := 1) d_Rd_readPiece_101 (by decide) ?_
          obtain ⟨r102, σ102, h1, h⟩ := bnd2_e h
          refine V.vI (as := [.int 1]) (st := []) (c_Rd_fail Z h1) k_Rd_fail lk_Rd_66 (by omega) rfl (by decide) ly_17 ok_Rd.1 rfl (Nat.le_of_ble_eq_true rfl) d_Rd_readPiece_102 ?_
          obtain ⟨hz, h⟩ := grd_e h
          have hz := congrArg Value.int (of_decide_eq_true hz)
          cases h
          exact V.zret rfl hz d_Rd_readPiece_105 ⟨rfl, rfl⟩
      · replace h := ite_t hc86 h
        refine V.iconst (v := 0) d_Rd_readPiece_89 (by decide) ?_
        cases h
        exact V.zret rfl rfl d_Rd_readPiece_90 ⟨rfl, rfl⟩
    · replace h := ite_t hc45 h
      refine V.aload_n d_Rd_readPiece_48 rfl 0 rfl ?_
      refine V.iload_n d_Rd_readPiece_49 rfl 1 rfl ?_
      obtain ⟨r50, σ50, h1, h⟩ := bnd2_e h
      refine V.vI (as := [.int a1]) (st := []) (c_Rd_stepDeeper Z h1) k_Rd_stepDeeper lk_Rd_114 (by omega) rfl (by decide) ly_17 ok_Rd.1 rfl (Nat.le_of_ble_eq_true rfl) d_Rd_readPiece_50 ?_
      refine V.if_eq (tgt := 79) d_Rd_readPiece_53 (by decide) (fun hc53 => ?_) (fun hc53 => ?_)
      · replace h := ite_t hc53 h
        refine V.iconst (v := 0) d_Rd_readPiece_79 (by decide) ?_
        cases h
        exact V.zret rfl rfl d_Rd_readPiece_80 ⟨rfl, rfl⟩
      · replace h := ite_f hc53 h
        refine V.aload_n d_Rd_readPiece_56 rfl 0 rfl ?_
        refine V.iload_n d_Rd_readPiece_57 rfl 1 rfl ?_
        refine V.iconst (v := 1) d_Rd_readPiece_58 (by decide) ?_
        refine V.iadd d_Rd_readPiece_59 ?_
        obtain ⟨r60, σ60, h1, h⟩ := bnd2_e h
        refine V.vI (as := [.int (a1 + 1)]) (st := []) (hG 0 _ _ _ _ h1) k_Rd_readParts lk_Rd_96 (by omega) rfl (by decide) ly_17 ok_Rd.1 rfl (Nat.le_of_ble_eq_true rfl) d_Rd_readPiece_60 ?_
        refine V.if_eq (tgt := 79) d_Rd_readPiece_63 (by decide) (fun hc63 => ?_) (fun hc63 => ?_)
        · replace h := ite_t hc63 h
          refine V.iconst (v := 0) d_Rd_readPiece_79 (by decide) ?_
          cases h
          exact V.zret rfl rfl d_Rd_readPiece_80 ⟨rfl, rfl⟩
        · replace h := ite_f hc63 h
          refine V.aload_n d_Rd_readPiece_66 rfl 0 rfl ?_
          refine V.bipush (v := 41) d_Rd_readPiece_67 (by decide) ?_
          obtain ⟨r69, σ69, h1, h⟩ := bnd2_e h
          refine V.vI (as := [.int 41]) (st := []) (c_Rd_step Z h1) k_Rd_step lk_Rd_73 (by omega) rfl (by decide) ly_17 ok_Rd.1 rfl (Nat.le_of_ble_eq_true rfl) d_Rd_readPiece_69 ?_
          refine V.if_eq (tgt := 79) d_Rd_readPiece_72 (by decide) (fun hc72 => ?_) (fun hc72 => ?_)
          · replace h := ite_t hc72 h
            refine V.iconst (v := 0) d_Rd_readPiece_79 (by decide) ?_
            cases h
            exact V.zret rfl rfl d_Rd_readPiece_80 ⟨rfl, rfl⟩
          · replace h := ite_f hc72 h
            refine V.iconst (v := 1) d_Rd_readPiece_75 (by decide) ?_
            refine V.goto (tgt := 80) d_Rd_readPiece_76 (by decide) ?_
            cases h
            exact V.zret rfl rfl d_Rd_readPiece_80 ⟨rfl, rfl⟩
  · replace h := ite_t hc6 h
    refine V.aload_n d_Rd_readPiece_9 rfl 0 rfl ?_
    refine V.iload_n d_Rd_readPiece_10 rfl 1 rfl ?_
    obtain ⟨r11, σ11, h1, h⟩ := bnd2_e h
    refine V.vI (as := [.int a1]) (st := []) (c_Rd_stepDeeper Z h1) k_Rd_stepDeeper lk_Rd_114 (by omega) rfl (by decide) ly_17 ok_Rd.1 rfl (Nat.le_of_ble_eq_true rfl) d_Rd_readPiece_11 ?_
    refine V.if_eq (tgt := 27) d_Rd_readPiece_14 (by decide) (fun hc14 => ?_) (fun hc14 => ?_)
    · replace h := ite_t hc14 h
      refine V.iconst (v := 0) d_Rd_readPiece_27 (by decide) ?_
      cases h
      exact V.zret rfl rfl d_Rd_readPiece_28 ⟨rfl, rfl⟩
    · replace h := ite_f hc14 h
      refine V.aload_n d_Rd_readPiece_17 rfl 0 rfl ?_
      refine V.iload_n d_Rd_readPiece_18 rfl 1 rfl ?_
      refine V.iconst (v := 1) d_Rd_readPiece_19 (by decide) ?_
      refine V.iadd d_Rd_readPiece_20 ?_
      obtain ⟨r21, σ21, h1, h⟩ := bnd2_e h
      refine V.vI (as := [.int (a1 + 1)]) (st := []) (hG 2 _ _ _ _ h1) k_Rd_readPiece lk_Rd_111 (by omega) rfl (by decide) ly_17 ok_Rd.1 rfl (Nat.le_of_ble_eq_true rfl) d_Rd_readPiece_21 ?_
      refine V.if_ne (tgt := 29) d_Rd_readPiece_24 (by decide) (fun hc24 => ?_) (fun hc24 => ?_)
      · replace h := ite_f hc24 h
        refine V.aload_n d_Rd_readPiece_29 rfl 0 rfl ?_
        refine V.getR (r := 10) ok_Rd fl_Rd_29 (by decide) (by decide) ly_17 rfl d_Rd_readPiece_30 ?_
        refine V.iconst (v := 5) d_Rd_readPiece_33 (by decide) ?_
        obtain ⟨σ34, h1, h⟩ := bnd1_e h
        refine V.vN (as := [.int 5]) (st := []) (c_La_put_b Z h1) k_La_put lk_Rd_90 (by omega) rfl (by decide) ly_10 ok_La.1 rfl (Nat.le_of_ble_eq_true rfl) d_Rd_readPiece_34 ?_
        refine V.iconst (v := 1) d_Rd_readPiece_37 (by decide) ?_
        cases h
        exact V.zret rfl rfl d_Rd_readPiece_38 ⟨rfl, rfl⟩
      · replace h := ite_t hc24 h
        refine V.iconst (v := 0) d_Rd_readPiece_27 (by decide) ?_
        cases h
        exact V.zret rfl rfl d_Rd_readPiece_28 ⟨rfl, rfl⟩
def B_Rd_readSum_l12 (N : Nat) (G : GT) (a1 : Int32) (rec : Int32 → Mem → Option ((Int32 × Mem) ⊕ (Mem))) (x2 : Int32) (σ : Mem) : Option ((Int32 × Mem) ⊕ (Mem)) :=
  if 240 < x2 then
    (some (.inr σ))
  else
    (bnd1 (f_Rd_isOneOf_s2 N σ) fun r22 =>
    if r22 = 0 then
      (some (.inr σ))
    else
      (bnd1 (f_Rd_sign σ) fun r29 =>
      letv (sI σ 17 4 ((mI σ 17 4) + 1)) fun σ40 =>
      bnd2 (G 4 σ40 a1) fun r45 σ45 =>
      if r45 = 0 then
        (some (.inl (0, σ45)))
      else
        (bnd1 (f_La_put_b σ45 r29) fun σ58 =>
        letv (x2 + 1) fun v61 =>
        rec v61 σ58)))
def L_Rd_readSum_l12 (N : Nat) (G : GT) (a1 : Int32) : Nat → Int32 → Mem → Option ((Int32 × Mem) ⊕ (Mem))
  | 0, _, _ => none
  | k + 1, x2, σ => B_Rd_readSum_l12 N G a1 (L_Rd_readSum_l12 N G a1 k) x2 σ
set_option maxHeartbeats 4000000 in
set_option maxRecDepth 20000 in
theorem cL_Rd_readSum_l12 (Z : ZX) {Y : YX} {post : Option Value → Mem → Prop} {N : Nat} {a1 : Int32} {K : Nat} {G : GT} (hG : HG Z K G) {Good : (Int32 × Mem) ⊕ (Mem) → Prop} (hE : ∀ (σe : Mem), Good (.inr σe) → V (mkB Z) Y m_Rd_readSum (4 + K + 1) (QP (mkB Z) Y nC 0 0 post) 0 0 nC σe 67 [] []) (hR : ∀ (v : Int32) (σr : Mem), Good (.inl (v, σr)) → post (some (.int v)) σr) : ∀ (k : Nat) (x2 : Int32) (σ : Mem) (res : (Int32 × Mem) ⊕ (Mem)), L_Rd_readSum_l12 N G a1 k x2 σ = some res → Good res → V (mkB Z) Y m_Rd_readSum (4 + K + 1) (QP (mkB Z) Y nC 0 0 post) 0 0 nC σ 12 [(0, rf Z 17), (1, .int a1), (2, .int x2)] [] := by
  intro k
  induction k with
  | zero => intro x2 σ res h; cases h
  | succ k ih =>
    intro x2 σ res h hg
    replace h : B_Rd_readSum_l12 N G a1 (L_Rd_readSum_l12 N G a1 k) x2 σ = some res := h
    unfold B_Rd_readSum_l12 at h
    refine V.iload_n d_Rd_readSum_12 rfl 2 rfl ?_
    refine V.sipush (v := 240) d_Rd_readSum_13 (by decide) ?_
    refine V.icmp_gt (tgt := 67) d_Rd_readSum_16 (by decide) (fun hc16 => ?_) (fun hc16 => ?_)
    · replace h := ite_t hc16 h
      cases h
      exact V.pick [] rfl (hE _ hg)
    · replace h := ite_f hc16 h
      refine V.aload_n d_Rd_readSum_19 rfl 0 rfl ?_
      refine V.ldcS 2 (by decide) rfl rfl d_Rd_readSum_20 ?_
      obtain ⟨r22, h1, h⟩ := bnd1_e h
      refine V.vI (as := [.ref (bK (mkB Z) 2)]) (st := []) (c_Rd_isOneOf_s2 Z h1) k_Rd_isOneOf lk_Rd_79 (by omega) rfl (by decide) ly_17 ok_Rd.1 rfl (Nat.le_of_ble_eq_true rfl) d_Rd_readSum_22 ?_
      refine V.if_eq (tgt := 67) d_Rd_readSum_25 (by decide) (fun hc25 => ?_) (fun hc25 => ?_)
      · replace h := ite_t hc25 h
        cases h
        exact V.pick [] rfl (hE _ hg)
      · replace h := ite_f hc25 h
        refine V.aload_n d_Rd_readSum_28 rfl 0 rfl ?_
        obtain ⟨r29, h1, h⟩ := bnd1_e h
        refine V.vI (as := []) (st := []) (c_Rd_sign Z h1) k_Rd_sign lk_Rd_58 (by omega) rfl (by decide) ly_17 ok_Rd.1 rfl (Nat.le_of_ble_eq_true rfl) d_Rd_readSum_29 ?_
        refine V.istore_n (lv' := [(3, .int r29), (0, rf Z 17), (1, .int a1), (2, .int x2)]) d_Rd_readSum_32 rfl (by decide) rfl ?_
        refine V.aload_n d_Rd_readSum_33 rfl 1 rfl ?_
        refine V.dup d_Rd_readSum_34 rfl ?_
        refine V.getI ok_Rd fl_Rd_19 (by decide) (by decide) ly_17 rfl d_Rd_readSum_35 ?_
        refine V.iconst (v := 1) d_Rd_readSum_38 (by decide) ?_
        refine V.iadd d_Rd_readSum_39 ?_
        obtain ⟨σ40, e_σ40, h⟩ := letv_e h
        refine V.putI ok_Rd fl_Rd_19 (by decide) (by decide) ly_17 rfl rfl rfl rfl d_Rd_readSum_40 (V.mem e_σ40 ?_)
        refine V.aload_n d_Rd_readSum_43 rfl 1 rfl ?_
        refine V.iload_n d_Rd_readSum_44 rfl 2 rfl ?_
        obtain ⟨r45, σ45, h1, h⟩ := bnd2_e h
        refine V.vI (as := [.int a1]) (st := []) (hG 4 _ _ _ _ h1) k_Rd_readTerm lk_Rd_119 (by omega) rfl (by decide) ly_17 ok_Rd.1 rfl (Nat.le_of_ble_eq_true rfl) d_Rd_readSum_45 ?_
        refine V.if_ne (tgt := 53) d_Rd_readSum_48 (by decide) (fun hc48 => ?_) (fun hc48 => ?_)
        · replace h := ite_f hc48 h
          refine V.aload_n d_Rd_readSum_53 rfl 1 rfl ?_
          refine V.getR (r := 10) ok_Rd fl_Rd_29 (by decide) (by decide) ly_17 rfl d_Rd_readSum_54 ?_
          refine V.iload_n d_Rd_readSum_57 rfl 0 rfl ?_
          obtain ⟨σ58, h1, h⟩ := bnd1_e h
          refine V.vN (as := [.int r29]) (st := []) (c_La_put_b Z h1) k_La_put lk_Rd_90 (by omega) rfl (by decide) ly_10 ok_La.1 rfl (Nat.le_of_ble_eq_true rfl) d_Rd_readSum_58 ?_
          obtain ⟨v61, e_v61, h⟩ := letv_e h
          refine V.iinc (v := v61) (lv' := [(2, .int v61), (3, .int r29), (0, rf Z 17), (1, .int a1)]) d_Rd_readSum_61 3 rfl (by rw [e_v61]; rfl) (by decide) rfl ?_
          refine V.goto (tgt := 12) d_Rd_readSum_64 (by decide) ?_
          exact V.pick [2, 3, 0] rfl (ih _ _ _ h hg)
        · replace h := ite_t hc48 h
          refine V.iconst (v := 0) d_Rd_readSum_51 (by decide) ?_
          cases h
          exact V.zret rfl rfl d_Rd_readSum_52 (hR _ _ hg)
def f_Rd_readSum (N : Nat) (G : GT) (σ : Mem) (a1 : Int32) : Option (Int32 × Mem) :=
  bnd2 (G 4 σ a1) fun r2 σ2 =>
  if r2 = 0 then
    (some (0, σ2))
  else
    (bnd1 (L_Rd_readSum_l12 N G a1 N 0 σ2) fun x12_ =>
    sm x12_ (fun r12_ => some r12_) fun σ12_ =>
    some (1, σ12_))
set_option maxHeartbeats 4000000 in
set_option maxRecDepth 20000 in
theorem c_Rd_readSum (Z : ZX) {N K : Nat} {G : GT} (hG : HG Z K G) {σ : Mem} {a1 : Int32} {r : Int32} {σ' : Mem} (h : f_Rd_readSum N G σ a1 = some (r, σ')) : CI Z (4 + K + 1) m_Rd_readSum [rf Z 17, .int a1] σ r σ' := by
  refine Ct.of (by decide +kernel) (Nat.le_of_ble_eq_true rfl) (fun Y => ?_)
  show V (mkB Z) Y m_Rd_readSum (4 + K + 1) (QP (mkB Z) Y nC 0 0 (fun v t => v = some (.int r) ∧ t = σ')) 0 0 nC σ 0 [(0, rf Z 17), (1, .int a1)] []
  unfold f_Rd_readSum at h
  refine V.aload_n d_Rd_readSum_0 rfl 0 rfl ?_
  refine V.iload_n d_Rd_readSum_1 rfl 1 rfl ?_
  obtain ⟨r2, σ2, h1, h⟩ := bnd2_e h
  refine V.vI (as := [.int a1]) (st := []) (hG 4 _ _ _ _ h1) k_Rd_readTerm lk_Rd_119 (by omega) rfl (by decide) ly_17 ok_Rd.1 rfl (Nat.le_of_ble_eq_true rfl) d_Rd_readSum_2 ?_
  refine V.if_ne (tgt := 10) d_Rd_readSum_5 (by decide) (fun hc5 => ?_) (fun hc5 => ?_)
  · replace h := ite_f hc5 h
    refine V.iconst (v := 0) d_Rd_readSum_10 (by decide) ?_
    refine V.istore_n (lv' := [(2, .int 0), (0, rf Z 17), (1, .int a1)]) d_Rd_readSum_11 rfl (by decide) rfl ?_
    obtain ⟨x12_, h1, h⟩ := bnd1_e h
    refine V.pick [1, 2, 0] rfl (cL_Rd_readSum_l12 Z hG (Good := fun z => x12_ = z) (fun σ12_ he => ?_) (fun r12v r12m he => ?_) N _ _ _ h1 rfl)
    · rw [he] at h
      replace h := sm_r h
      refine V.iconst (v := 1) d_Rd_readSum_67 (by decide) ?_
      cases h
      exact V.zret rfl rfl d_Rd_readSum_68 ⟨rfl, rfl⟩
    · rw [he] at h
      replace h := sm_l h
      cases h
      exact ⟨rfl, rfl⟩
  · replace h := ite_t hc5 h
    refine V.iconst (v := 0) d_Rd_readSum_8 (by decide) ?_
    cases h
    exact V.zret rfl rfl d_Rd_readSum_9 ⟨rfl, rfl⟩
def B_Rd_readTerm_l12 (N : Nat) (G : GT) (a1 : Int32) (rec : Int32 → Mem → Option ((Int32 × Mem) ⊕ (Mem))) (x2 : Int32) (σ : Mem) : Option ((Int32 × Mem) ⊕ (Mem)) :=
  if 240 < x2 then
    (some (.inr σ))
  else
    (bnd1 (f_Rd_isOneOf_s3 N σ) fun r22 =>
    if r22 = 0 then
      (some (.inr σ))
    else
      (bnd1 (f_Rd_sign σ) fun r29 =>
      letv (sI σ 17 4 ((mI σ 17 4) + 1)) fun σ40 =>
      bnd2 (G 5 σ40 a1) fun r45 σ45 =>
      if r45 = 0 then
        (some (.inl (0, σ45)))
      else
        (bnd1 (f_La_put_b σ45 r29) fun σ58 =>
        letv (x2 + 1) fun v61 =>
        rec v61 σ58)))
def L_Rd_readTerm_l12 (N : Nat) (G : GT) (a1 : Int32) : Nat → Int32 → Mem → Option ((Int32 × Mem) ⊕ (Mem))
  | 0, _, _ => none
  | k + 1, x2, σ => B_Rd_readTerm_l12 N G a1 (L_Rd_readTerm_l12 N G a1 k) x2 σ
set_option maxHeartbeats 4000000 in
set_option maxRecDepth 20000 in
theorem cL_Rd_readTerm_l12 (Z : ZX) {Y : YX} {post : Option Value → Mem → Prop} {N : Nat} {a1 : Int32} {K : Nat} {G : GT} (hG : HG Z K G) {Good : (Int32 × Mem) ⊕ (Mem) → Prop} (hE : ∀ (σe : Mem), Good (.inr σe) → V (mkB Z) Y m_Rd_readTerm (4 + K + 1) (QP (mkB Z) Y nC 0 0 post) 0 0 nC σe 67 [] []) (hR : ∀ (v : Int32) (σr : Mem), Good (.inl (v, σr)) → post (some (.int v)) σr) : ∀ (k : Nat) (x2 : Int32) (σ : Mem) (res : (Int32 × Mem) ⊕ (Mem)), L_Rd_readTerm_l12 N G a1 k x2 σ = some res → Good res → V (mkB Z) Y m_Rd_readTerm (4 + K + 1) (QP (mkB Z) Y nC 0 0 post) 0 0 nC σ 12 [(0, rf Z 17), (1, .int a1), (2, .int x2)] [] := by
  intro k
  induction k with
  | zero => intro x2 σ res h; cases h
  | succ k ih =>
    intro x2 σ res h hg
    replace h : B_Rd_readTerm_l12 N G a1 (L_Rd_readTerm_l12 N G a1 k) x2 σ = some res := h
    unfold B_Rd_readTerm_l12 at h
    refine V.iload_n d_Rd_readTerm_12 rfl 2 rfl ?_
    refine V.sipush (v := 240) d_Rd_readTerm_13 (by decide) ?_
    refine V.icmp_gt (tgt := 67) d_Rd_readTerm_16 (by decide) (fun hc16 => ?_) (fun hc16 => ?_)
    · replace h := ite_t hc16 h
      cases h
      exact V.pick [] rfl (hE _ hg)
    · replace h := ite_f hc16 h
      refine V.aload_n d_Rd_readTerm_19 rfl 0 rfl ?_
      refine V.ldcS 3 (by decide) rfl rfl d_Rd_readTerm_20 ?_
      obtain ⟨r22, h1, h⟩ := bnd1_e h
      refine V.vI (as := [.ref (bK (mkB Z) 3)]) (st := []) (c_Rd_isOneOf_s3 Z h1) k_Rd_isOneOf lk_Rd_79 (by omega) rfl (by decide) ly_17 ok_Rd.1 rfl (Nat.le_of_ble_eq_true rfl) d_Rd_readTerm_22 ?_
      refine V.if_eq (tgt := 67) d_Rd_readTerm_25 (by decide) (fun hc25 => ?_) (fun hc25 => ?_)
      · replace h := ite_t hc25 h
        cases h
        exact V.pick [] rfl (hE _ hg)
      · replace h := ite_f hc25 h
        refine V.aload_n d_Rd_readTerm_28 rfl 0 rfl ?_
        obtain ⟨r29, h1, h⟩ := bnd1_e h
        refine V.vI (as := []) (st := []) (c_Rd_sign Z h1) k_Rd_sign lk_Rd_58 (by omega) rfl (by decide) ly_17 ok_Rd.1 rfl (Nat.le_of_ble_eq_true rfl) d_Rd_readTerm_29 ?_
        refine V.istore_n (lv' := [(3, .int r29), (0, rf Z 17), (1, .int a1), (2, .int x2)]) d_Rd_readTerm_32 rfl (by decide) rfl ?_
        refine V.aload_n d_Rd_readTerm_33 rfl 1 rfl ?_
        refine V.dup d_Rd_readTerm_34 rfl ?_
        refine V.getI ok_Rd fl_Rd_19 (by decide) (by decide) ly_17 rfl d_Rd_readTerm_35 ?_
        refine V.iconst (v := 1) d_Rd_readTerm_38 (by decide) ?_
        refine V.iadd d_Rd_readTerm_39 ?_
        obtain ⟨σ40, e_σ40, h⟩ := letv_e h
        refine V.putI ok_Rd fl_Rd_19 (by decide) (by decide) ly_17 rfl rfl rfl rfl d_Rd_readTerm_40 (V.mem e_σ40 ?_)
        refine V.aload_n d_Rd_readTerm_43 rfl 1 rfl ?_
        refine V.iload_n d_Rd_readTerm_44 rfl 2 rfl ?_
        obtain ⟨r45, σ45, h1, h⟩ := bnd2_e h
        refine V.vI (as := [.int a1]) (st := []) (hG 5 _ _ _ _ h1) k_Rd_readFactor lk_Rd_124 (by omega) rfl (by decide) ly_17 ok_Rd.1 rfl (Nat.le_of_ble_eq_true rfl) d_Rd_readTerm_45 ?_
        refine V.if_ne (tgt := 53) d_Rd_readTerm_48 (by decide) (fun hc48 => ?_) (fun hc48 => ?_)
        · replace h := ite_f hc48 h
          refine V.aload_n d_Rd_readTerm_53 rfl 1 rfl ?_
          refine V.getR (r := 10) ok_Rd fl_Rd_29 (by decide) (by decide) ly_17 rfl d_Rd_readTerm_54 ?_
          refine V.iload_n d_Rd_readTerm_57 rfl 0 rfl ?_
          obtain ⟨σ58, h1, h⟩ := bnd1_e h
          refine V.vN (as := [.int r29]) (st := []) (c_La_put_b Z h1) k_La_put lk_Rd_90 (by omega) rfl (by decide) ly_10 ok_La.1 rfl (Nat.le_of_ble_eq_true rfl) d_Rd_readTerm_58 ?_
          obtain ⟨v61, e_v61, h⟩ := letv_e h
          refine V.iinc (v := v61) (lv' := [(2, .int v61), (3, .int r29), (0, rf Z 17), (1, .int a1)]) d_Rd_readTerm_61 3 rfl (by rw [e_v61]; rfl) (by decide) rfl ?_
          refine V.goto (tgt := 12) d_Rd_readTerm_64 (by decide) ?_
          exact V.pick [2, 3, 0] rfl (ih _ _ _ h hg)
        · replace h := ite_t hc48 h
          refine V.iconst (v := 0) d_Rd_readTerm_51 (by decide) ?_
          cases h
          exact V.zret rfl rfl d_Rd_readTerm_52 (hR _ _ hg)
def f_Rd_readTerm (N : Nat) (G : GT) (σ : Mem) (a1 : Int32) : Option (Int32 × Mem) :=
  bnd2 (G 5 σ a1) fun r2 σ2 =>
  if r2 = 0 then
    (some (0, σ2))
  else
    (bnd1 (L_Rd_readTerm_l12 N G a1 N 0 σ2) fun x12_ =>
    sm x12_ (fun r12_ => some r12_) fun σ12_ =>
    some (1, σ12_))
set_option maxHeartbeats 4000000 in
set_option maxRecDepth 20000 in
theorem c_Rd_readTerm (Z : ZX) {N K : Nat} {G : GT} (hG : HG Z K G) {σ : Mem} {a1 : Int32} {r : Int32} {σ' : Mem} (h : f_Rd_readTerm N G σ a1 = some (r, σ')) : CI Z (4 + K + 1) m_Rd_readTerm [rf Z 17, .int a1] σ r σ' := by
  refine Ct.of (by decide +kernel) (Nat.le_of_ble_eq_true rfl) (fun Y => ?_)
  show V (mkB Z) Y m_Rd_readTerm (4 + K + 1) (QP (mkB Z) Y nC 0 0 (fun v t => v = some (.int r) ∧ t = σ')) 0 0 nC σ 0 [(0, rf Z 17), (1, .int a1)] []
  unfold f_Rd_readTerm at h
  refine V.aload_n d_Rd_readTerm_0 rfl 0 rfl ?_
  refine V.iload_n d_Rd_readTerm_1 rfl 1 rfl ?_
  obtain ⟨r2, σ2, h1, h⟩ := bnd2_e h
  refine V.vI (as := [.int a1]) (st := []) (hG 5 _ _ _ _ h1) k_Rd_readFactor lk_Rd_124 (by omega) rfl (by decide) ly_17 ok_Rd.1 rfl (Nat.le_of_ble_eq_true rfl) d_Rd_readTerm_2 ?_
  refine V.if_ne (tgt := 10) d_Rd_readTerm_5 (by decide) (fun hc5 => ?_) (fun hc5 => ?_)
  · replace h := ite_f hc5 h
    refine V.iconst (v := 0) d_Rd_readTerm_10 (by decide) ?_
    refine V.istore_n (lv' := [(2, .int 0), (0, rf Z 17), (1, .int a1)]) d_Rd_readTerm_11 rfl (by decide) rfl ?_
    obtain ⟨x12_, h1, h⟩ := bnd1_e h
    refine V.pick [1, 2, 0] rfl (cL_Rd_readTerm_l12 Z hG (Good := fun z => x12_ = z) (fun σ12_ he => ?_) (fun r12v r12m he => ?_) N _ _ _ h1 rfl)
    · rw [he] at h
      replace h := sm_r h
      refine V.iconst (v := 1) d_Rd_readTerm_67 (by decide) ?_
      cases h
      exact V.zret rfl rfl d_Rd_readTerm_68 ⟨rfl, rfl⟩
    · rw [he] at h
      replace h := sm_l h
      cases h
      exact ⟨rfl, rfl⟩
  · replace h := ite_t hc5 h
    refine V.iconst (v := 0) d_Rd_readTerm_8 (by decide) ?_
    cases h
    exact V.zret rfl rfl d_Rd_readTerm_9 ⟨rfl, rfl⟩
def f_Rd_readFactor (N : Nat) (G : GT) (σ : Mem) (a1 : Int32) : Option (Int32 × Mem) :=
  bnd1 (f_Rd_sign σ) fun r1 =>
  if r1 = 91 then
    (bnd2 (f_Rd_stepDeeper σ a1) fun r11 σ11 =>
    if r11 = 0 then
      (some (0, σ11))
    else
      (bnd2 (G 3 σ11 (a1 + 1)) fun r21 σ21 =>
      if r21 = 0 then
        (some (0, σ21))
      else
        (bnd2 (f_Rd_step σ21 93) fun r30 σ30 =>
        if r30 = 0 then
          (some (0, σ30))
        else
          (some (1, σ30)))))
  else
    (bnd1 (f_Rd_isDigit σ) fun r43 =>
    if r43 = 0 then
      (bnd1 (f_Rd_isOneOf_s4 N σ) fun r57 =>
      if r57 = 0 then
        (bnd2 (f_Rd_fail σ 1) fun r65 σ65 =>
        grd (decide (r65 &&& 1 = r65)) (some (r65, σ65)))
      else
        (bnd1 (f_La_put_b σ 2) fun σ74 =>
        bnd1 (f_Rd_sign σ74) fun r84 =>
        bnd1 (f_JS_indexOf_0f7a4_s4 N ((r84.toUInt32 % 65536).toInt32)) fun r88 =>
        bnd1 (f_La_put_b σ74 r88) fun σ91 =>
        letv (sI σ91 17 4 ((mI σ91 17 4) + 1)) fun σ101 =>
        some (1, σ101)))
    else
      (bnd2 (f_Rd_readNumber N σ) fun r50 σ50 =>
      grd (decide (r50 &&& 1 = r50)) (some (r50, σ50))))
set_option maxHeartbeats 4000000 in
set_option maxRecDepth 20000 in
theorem c_Rd_readFactor (Z : ZX) {N K : Nat} {G : GT} (hG : HG Z K G) {σ : Mem} {a1 : Int32} {r : Int32} {σ' : Mem} (h : f_Rd_readFactor N G σ a1 = some (r, σ')) : CI Z (4 + K + 1) m_Rd_readFactor [rf Z 17, .int a1] σ r σ' := by
  refine Ct.of (by decide +kernel) (Nat.le_of_ble_eq_true rfl) (fun Y => ?_)
  show V (mkB Z) Y m_Rd_readFactor (4 + K + 1) (QP (mkB Z) Y nC 0 0 (fun v t => v = some (.int r) ∧ t = σ')) 0 0 nC σ 0 [(0, rf Z 17), (1, .int a1)] []
  unfold f_Rd_readFactor at h
  refine V.aload_n d_Rd_readFactor_0 rfl 0 rfl ?_
  obtain ⟨r1, h1, h⟩ := bnd1_e h
  refine V.vI (as := []) (st := []) (c_Rd_sign Z h1) k_Rd_sign lk_Rd_58 (by omega) rfl (by decide) ly_17 ok_Rd.1 rfl (Nat.le_of_ble_eq_true rfl) d_Rd_readFactor_1 ?_
  refine V.bipush (v := 91) d_Rd_readFactor_4 (by decide) ?_
  refine V.icmp_ne (tgt := 42) d_Rd_readFactor_6 (by decide) (fun hc6 => ?_) (fun hc6 => ?_)
  · replace h := ite_f hc6 h
    refine V.aload_n d_Rd_readFactor_42 rfl 0 rfl ?_
    obtain ⟨r43, h1, h⟩ := bnd1_e h
    refine V.vI (as := []) (st := []) (c_Rd_isDigit Z h1) k_Rd_isDigit lk_Rd_129 (by omega) rfl (by decide) ly_17 ok_Rd.1 rfl (Nat.le_of_ble_eq_true rfl) d_Rd_readFactor_43 ?_
    refine V.if_eq (tgt := 54) d_Rd_readFactor_46 (by decide) (fun hc46 => ?_) (fun hc46 => ?_)
    · replace h := ite_t hc46 h
      refine V.aload_n d_Rd_readFactor_54 rfl 0 rfl ?_
      refine V.ldcS 4 (by decide) rfl rfl d_Rd_readFactor_55 ?_
      obtain ⟨r57, h1, h⟩ := bnd1_e h
      refine V.vI (as := [.ref (bK (mkB Z) 4)]) (st := []) (c_Rd_isOneOf_s4 Z h1) k_Rd_isOneOf lk_Rd_79 (by omega) rfl (by decide) ly_17 ok_Rd.1 rfl (Nat.le_of_ble_eq_true rfl) d_Rd_readFactor_57 ?_
      refine V.if_ne (tgt := 69) d_Rd_readFactor_60 (by decide) (fun hc60 => ?_) (fun hc60 => ?_)
      · replace h := ite_f hc60 h
        refine V.aload_n d_Rd_readFactor_69 rfl 0 rfl ?_
        refine V.getR (r := 10) ok_Rd fl_Rd_29 (by decide) (by decide) ly_17 rfl d_Rd_readFactor_70 ?_
        refine V.iconst (v := 2) d_Rd_readFactor_73 (by decide) ?_
        obtain ⟨σ74, h1, h⟩ := bnd1_e h
        refine V.vN (as := [.int 2]) (st := []) (c_La_put_b Z h1) k_La_put lk_Rd_90 (by omega) rfl (by decide) ly_10 ok_La.1 rfl (Nat.le_of_ble_eq_true rfl) d_Rd_readFactor_74 ?_
        refine V.aload_n d_Rd_readFactor_77 rfl 0 rfl ?_
        refine V.getR (r := 10) ok_Rd fl_Rd_29 (by decide) (by decide) ly_17 rfl d_Rd_readFactor_78 ?_
        refine V.ldcS 4 (by decide) rfl rfl d_Rd_readFactor_81 ?_
        refine V.aload_n d_Rd_readFactor_83 rfl 0 rfl ?_
        obtain ⟨r84, h1, h⟩ := bnd1_e h
        refine V.vI (as := []) (st := [.ref (bK (mkB Z) 4), rf Z 10]) (c_Rd_sign Z h1) k_Rd_sign lk_Rd_58 (by omega) rfl (by decide) ly_17 ok_Rd.1 rfl (Nat.le_of_ble_eq_true rfl) d_Rd_readFactor_84 ?_
        refine V.i2c d_Rd_readFactor_87 ?_
        obtain ⟨r88, h1, h⟩ := bnd1_e h
        refine V.uI (as := [.int ((r84.toUInt32 % 65536).toInt32)]) (st := [rf Z 10]) (by decide) (c_JS_indexOf_0f7a4_s4 Z h1) k_JS_indexOf_0f7a4 rfl lk_Rd_61 (by omega) rfl rfl (Nat.le_of_ble_eq_true rfl) d_Rd_readFactor_88 ?_
        obtain ⟨σ91, h1, h⟩ := bnd1_e h
        refine V.vN (as := [.int r88]) (st := []) (c_La_put_b Z h1) k_La_put lk_Rd_90 (by omega) rfl (by decide) ly_10 ok_La.1 rfl (Nat.le_of_ble_eq_true rfl) d_Rd_readFactor_91 ?_
        refine V.aload_n d_Rd_readFactor_94 rfl 0 rfl ?_
        refine V.dup d_Rd_readFactor_95 rfl ?_
        refine V.getI ok_Rd fl_Rd_19 (by decide) (by decide) ly_17 rfl d_Rd_readFactor_96 ?_
        refine V.iconst (v := 1) d_Rd_readFactor_99 (by decide) ?_
        refine V.iadd d_Rd_readFactor_100 ?_
        obtain ⟨σ101, e_σ101, h⟩ := letv_e h
        refine V.putI ok_Rd fl_Rd_19 (by decide) (by decide) ly_17 rfl rfl rfl rfl d_Rd_readFactor_101 (V.mem e_σ101 ?_)
        refine V.iconst (v := 1) d_Rd_readFactor_104 (by decide) ?_
        cases h
        exact V.zret rfl rfl d_Rd_readFactor_105 ⟨rfl, rfl⟩
      · replace h := ite_t hc60 h
        refine V.aload_n d_Rd_readFactor_63 rfl 0 rfl ?_
        refine V.iconst (v := 1) d_Rd_readFactor_64 (by decide) ?_
        obtain ⟨r65, σ65, h1, h⟩ := bnd2_e h
        refine V.vI (as := [.int 1]) (st := []) (c_Rd_fail Z h1) k_Rd_fail lk_Rd_66 (by omega) rfl (by decide) ly_17 ok_Rd.1 rfl (Nat.le_of_ble_eq_true rfl) d_Rd_readFactor_65 ?_
        obtain ⟨hz, h⟩ := grd_e h
        have hz := congrArg Value.int (of_decide_eq_true hz)
        cases h
        exact V.zret rfl hz d_Rd_readFactor_68 ⟨rfl, rfl⟩
    · replace h := ite_f hc46 h
      refine V.aload_n d_Rd_readFactor_49 rfl 0 rfl ?_
      obtain ⟨r50, σ50, h1, h⟩ := bnd2_e h
      refine V.vI (as := []) (st := []) (c_Rd_readNumber Z h1) k_Rd_readNumber lk_Rd_132 (by omega) rfl (by decide) ly_17 ok_Rd.1 rfl (Nat.le_of_ble_eq_true rfl) d_Rd_readFactor_50 ?_
      obtain ⟨hz, h⟩ := grd_e h
      have hz := congrArg Value.int (of_decide_eq_true hz)
      cases h
      exact V.zret rfl hz d_Rd_readFactor_53 ⟨rfl, rfl⟩
  · replace h := ite_t hc6 h
    refine V.aload_n d_Rd_readFactor_9 rfl 0 rfl ?_
    refine V.iload_n d_Rd_readFactor_10 rfl 1 rfl ?_
    obtain ⟨r11, σ11, h1, h⟩ := bnd2_e h
    refine V.vI (as := [.int a1]) (st := []) (c_Rd_stepDeeper Z h1) k_Rd_stepDeeper lk_Rd_114 (by omega) rfl (by decide) ly_17 ok_Rd.1 rfl (Nat.le_of_ble_eq_true rfl) d_Rd_readFactor_11 ?_
    refine V.if_eq (tgt := 40) d_Rd_readFactor_14 (by decide) (fun hc14 => ?_) (fun hc14 => ?_)
    · replace h := ite_t hc14 h
      refine V.iconst (v := 0) d_Rd_readFactor_40 (by decide) ?_
      cases h
      exact V.zret rfl rfl d_Rd_readFactor_41 ⟨rfl, rfl⟩
    · replace h := ite_f hc14 h
      refine V.aload_n d_Rd_readFactor_17 rfl 0 rfl ?_
      refine V.iload_n d_Rd_readFactor_18 rfl 1 rfl ?_
      refine V.iconst (v := 1) d_Rd_readFactor_19 (by decide) ?_
      refine V.iadd d_Rd_readFactor_20 ?_
      obtain ⟨r21, σ21, h1, h⟩ := bnd2_e h
      refine V.vI (as := [.int (a1 + 1)]) (st := []) (hG 3 _ _ _ _ h1) k_Rd_readSum lk_Rd_87 (by omega) rfl (by decide) ly_17 ok_Rd.1 rfl (Nat.le_of_ble_eq_true rfl) d_Rd_readFactor_21 ?_
      refine V.if_eq (tgt := 40) d_Rd_readFactor_24 (by decide) (fun hc24 => ?_) (fun hc24 => ?_)
      · replace h := ite_t hc24 h
        refine V.iconst (v := 0) d_Rd_readFactor_40 (by decide) ?_
        cases h
        exact V.zret rfl rfl d_Rd_readFactor_41 ⟨rfl, rfl⟩
      · replace h := ite_f hc24 h
        refine V.aload_n d_Rd_readFactor_27 rfl 0 rfl ?_
        refine V.bipush (v := 93) d_Rd_readFactor_28 (by decide) ?_
        obtain ⟨r30, σ30, h1, h⟩ := bnd2_e h
        refine V.vI (as := [.int 93]) (st := []) (c_Rd_step Z h1) k_Rd_step lk_Rd_73 (by omega) rfl (by decide) ly_17 ok_Rd.1 rfl (Nat.le_of_ble_eq_true rfl) d_Rd_readFactor_30 ?_
        refine V.if_eq (tgt := 40) d_Rd_readFactor_33 (by decide) (fun hc33 => ?_) (fun hc33 => ?_)
        · replace h := ite_t hc33 h
          refine V.iconst (v := 0) d_Rd_readFactor_40 (by decide) ?_
          cases h
          exact V.zret rfl rfl d_Rd_readFactor_41 ⟨rfl, rfl⟩
        · replace h := ite_f hc33 h
          refine V.iconst (v := 1) d_Rd_readFactor_36 (by decide) ?_
          refine V.goto (tgt := 41) d_Rd_readFactor_37 (by decide) ?_
          cases h
          exact V.zret rfl rfl d_Rd_readFactor_41 ⟨rfl, rfl⟩
def rd (N : Nat) : Nat → GT
  | 0, _, _, _ => none
  | k + 1, 0, σ, a => f_Rd_readParts N (rd N k) σ a
  | k + 1, 1, σ, a => f_Rd_readPieces N (rd N k) σ a
  | k + 1, 2, σ, a => f_Rd_readPiece N (rd N k) σ a
  | k + 1, 3, σ, a => f_Rd_readSum N (rd N k) σ a
  | k + 1, 4, σ, a => f_Rd_readTerm N (rd N k) σ a
  | k + 1, 5, σ, a => f_Rd_readFactor N (rd N k) σ a
  | _ + 1, _ + 6, _, _ => none
theorem c_rd (Z : ZX) (N : Nat) : ∀ k : Nat, HG Z k (rd N k) := by
  intro k
  induction k with
  | zero => intro t σ a r σ1 h; cases h
  | succ k ih =>
    intro t σ a r σ1 h
    match t, h with
    | 0, h => exact c_Rd_readParts Z ih h
    | 1, h => exact c_Rd_readPieces Z ih h
    | 2, h => exact c_Rd_readPiece Z ih h
    | 3, h => exact c_Rd_readSum Z ih h
    | 4, h => exact c_Rd_readTerm Z ih h
    | 5, h => exact c_Rd_readFactor Z ih h
    | _ + 6, h => cases h
def fr_Rd_readParts (N : Nat) (σ : Mem) (a1 : Int32) : Option (Int32 × Mem) := rd N 40 0 σ a1
theorem cr_Rd_readParts (Z : ZX) {N : Nat} {σ : Mem} {a1 r : Int32} {σ' : Mem} (h : fr_Rd_readParts N σ a1 = some (r, σ')) : CI Z 44 m_Rd_readParts [rf Z 17, .int a1] σ r σ' := c_rd Z N 40 0 σ a1 r σ' h
def fr_Rd_readPieces (N : Nat) (σ : Mem) (a1 : Int32) : Option (Int32 × Mem) := rd N 40 1 σ a1
theorem cr_Rd_readPieces (Z : ZX) {N : Nat} {σ : Mem} {a1 r : Int32} {σ' : Mem} (h : fr_Rd_readPieces N σ a1 = some (r, σ')) : CI Z 44 m_Rd_readPieces [rf Z 17, .int a1] σ r σ' := c_rd Z N 40 1 σ a1 r σ' h
def fr_Rd_readPiece (N : Nat) (σ : Mem) (a1 : Int32) : Option (Int32 × Mem) := rd N 40 2 σ a1
theorem cr_Rd_readPiece (Z : ZX) {N : Nat} {σ : Mem} {a1 r : Int32} {σ' : Mem} (h : fr_Rd_readPiece N σ a1 = some (r, σ')) : CI Z 44 m_Rd_readPiece [rf Z 17, .int a1] σ r σ' := c_rd Z N 40 2 σ a1 r σ' h
def fr_Rd_readSum (N : Nat) (σ : Mem) (a1 : Int32) : Option (Int32 × Mem) := rd N 40 3 σ a1
theorem cr_Rd_readSum (Z : ZX) {N : Nat} {σ : Mem} {a1 r : Int32} {σ' : Mem} (h : fr_Rd_readSum N σ a1 = some (r, σ')) : CI Z 44 m_Rd_readSum [rf Z 17, .int a1] σ r σ' := c_rd Z N 40 3 σ a1 r σ' h
def fr_Rd_readTerm (N : Nat) (σ : Mem) (a1 : Int32) : Option (Int32 × Mem) := rd N 40 4 σ a1
theorem cr_Rd_readTerm (Z : ZX) {N : Nat} {σ : Mem} {a1 r : Int32} {σ' : Mem} (h : fr_Rd_readTerm N σ a1 = some (r, σ')) : CI Z 44 m_Rd_readTerm [rf Z 17, .int a1] σ r σ' := c_rd Z N 40 4 σ a1 r σ' h
def fr_Rd_readFactor (N : Nat) (σ : Mem) (a1 : Int32) : Option (Int32 × Mem) := rd N 40 5 σ a1
theorem cr_Rd_readFactor (Z : ZX) {N : Nat} {σ : Mem} {a1 r : Int32} {σ' : Mem} (h : fr_Rd_readFactor N σ a1 = some (r, σ')) : CI Z 44 m_Rd_readFactor [rf Z 17, .int a1] σ r σ' := c_rd Z N 40 5 σ a1 r σ' h
abbrev m_La_endClause : MI := (⟨"ShadeTown$Law", "endClause", "()V"⟩, prog_4_method_7_code, 1, (Option.none : Option Jvm.ClassFile.FieldType))
theorem d_La_endClause_0 : decode prog_4_method_7_code 0 = .ok (.aload_n 0, 1) := by decide +kernel
theorem d_La_endClause_1 : decode prog_4_method_7_code 1 = .ok (.dup, 1) := by decide +kernel
theorem d_La_endClause_2 : decode prog_4_method_7_code 2 = .ok (.getfield 28, 3) := by decide +kernel
theorem d_La_endClause_5 : decode prog_4_method_7_code 5 = .ok (.iconst 1, 1) := by decide +kernel
theorem d_La_endClause_6 : decode prog_4_method_7_code 6 = .ok (.iadd, 1) := by decide +kernel
theorem d_La_endClause_7 : decode prog_4_method_7_code 7 = .ok (.putfield 28, 3) := by decide +kernel
theorem d_La_endClause_10 : decode prog_4_method_7_code 10 = .ok (.return_, 1) := by decide +kernel
def f_La_endClause_b (σ : Mem) : Option (Mem) :=
  letv (sI σ 10 5 ((mI σ 10 5) + 1)) fun σ7 =>
  some σ7
set_option maxHeartbeats 4000000 in
set_option maxRecDepth 20000 in
theorem c_La_endClause_b (Z : ZX) {σ : Mem} {σ' : Mem} (h : f_La_endClause_b σ = some σ') : CN Z 0 m_La_endClause [rf Z 10] σ σ' := by
  refine Ct.of (by decide +kernel) (Nat.le_of_ble_eq_true rfl) (fun Y => ?_)
  show V (mkB Z) Y m_La_endClause 0 (QP (mkB Z) Y nC 0 0 (fun v t => v = none ∧ t = σ')) 0 0 nC σ 0 [(0, rf Z 10)] []
  unfold f_La_endClause_b at h
  refine V.aload_n d_La_endClause_0 rfl 0 rfl ?_
  refine V.dup d_La_endClause_1 rfl ?_
  refine V.getI ok_La fl_La_28 (by decide) (by decide) ly_10 rfl d_La_endClause_2 ?_
  refine V.iconst (v := 1) d_La_endClause_5 (by decide) ?_
  refine V.iadd d_La_endClause_6 ?_
  obtain ⟨σ7, e_σ7, h⟩ := letv_e h
  refine V.putI ok_La fl_La_28 (by decide) (by decide) ly_10 rfl rfl rfl rfl d_La_endClause_7 (V.mem e_σ7 ?_)
  cases h
  exact V.vret rfl d_La_endClause_10 ⟨rfl, rfl⟩
