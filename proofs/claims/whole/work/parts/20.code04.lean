abbrev m_To_standingOf : MI := (⟨"ShadeTown$Town", "standingOf", "(I)I"⟩, prog_9_method_8_code, 4, (Option.some Jvm.ClassFile.FieldType.int))
theorem d_To_standingOf_0 : decode prog_9_method_8_code 0 = .ok (.iconst 0, 1) := by decide +kernel
theorem d_To_standingOf_1 : decode prog_9_method_8_code 1 = .ok (.istore_n 2, 1) := by decide +kernel
theorem d_To_standingOf_2 : decode prog_9_method_8_code 2 = .ok (.iconst 0, 1) := by decide +kernel
theorem d_To_standingOf_3 : decode prog_9_method_8_code 3 = .ok (.istore_n 3, 1) := by decide +kernel
theorem d_To_standingOf_4 : decode prog_9_method_8_code 4 = .ok (.iload_n 3, 1) := by decide +kernel
theorem d_To_standingOf_5 : decode prog_9_method_8_code 5 = .ok (.aload_n 0, 1) := by decide +kernel
theorem d_To_standingOf_6 : decode prog_9_method_8_code 6 = .ok (.getfield 30, 3) := by decide +kernel
theorem d_To_standingOf_42 : decode prog_9_method_8_code 42 = .ok (.iload_n 2, 1) := by decide +kernel
theorem d_To_standingOf_43 : decode prog_9_method_8_code 43 = .ok (.ireturn, 1) := by decide +kernel
theorem d_To_standingOf_12 : decode prog_9_method_8_code 12 = .ok (.aload_n 0, 1) := by decide +kernel
theorem d_To_standingOf_13 : decode prog_9_method_8_code 13 = .ok (.getfield 24, 3) := by decide +kernel
theorem d_To_standingOf_16 : decode prog_9_method_8_code 16 = .ok (.iload_n 3, 1) := by decide +kernel
theorem d_To_standingOf_17 : decode prog_9_method_8_code 17 = .ok (.iaload, 1) := by decide +kernel
theorem d_To_standingOf_18 : decode prog_9_method_8_code 18 = .ok (.iload_n 1, 1) := by decide +kernel
theorem d_To_standingOf_22 : decode prog_9_method_8_code 22 = .ok (.aload_n 0, 1) := by decide +kernel
theorem d_To_standingOf_23 : decode prog_9_method_8_code 23 = .ok (.iload_n 3, 1) := by decide +kernel
theorem d_To_standingOf_24 : decode prog_9_method_8_code 24 = .ok (.invokevirtual 53, 3) := by decide +kernel
theorem d_To_standingOf_30 : decode prog_9_method_8_code 30 = .ok (.iload_n 2, 1) := by decide +kernel
theorem d_To_standingOf_31 : decode prog_9_method_8_code 31 = .ok (.iconst 1, 1) := by decide +kernel
theorem d_To_standingOf_32 : decode prog_9_method_8_code 32 = .ok (.iload_n 3, 1) := by decide +kernel
theorem d_To_standingOf_33 : decode prog_9_method_8_code 33 = .ok (.ishl, 1) := by decide +kernel
theorem d_To_standingOf_34 : decode prog_9_method_8_code 34 = .ok (.ior, 1) := by decide +kernel
theorem d_To_standingOf_35 : decode prog_9_method_8_code 35 = .ok (.istore_n 2, 1) := by decide +kernel
theorem d_To_standingOf_27 : decode prog_9_method_8_code 27 = .ok (.ifCond .eq 9, 3) := by decide +kernel
theorem d_To_standingOf_19 : decode prog_9_method_8_code 19 = .ok (.if_icmp .ne 17, 3) := by decide +kernel
theorem d_To_standingOf_36 : decode prog_9_method_8_code 36 = .ok (.iinc 3 1, 3) := by decide +kernel
theorem d_To_standingOf_39 : decode prog_9_method_8_code 39 = .ok (.goto (-35), 3) := by decide +kernel
theorem d_To_standingOf_9 : decode prog_9_method_8_code 9 = .ok (.if_icmp .ge 33, 3) := by decide +kernel
def B_To_standingOf_l4 (N : Nat) (a1 : Int32) (σ : Mem) (rec : Int32 → Int32 → Option (Int32)) (x2 : Int32) (x3 : Int32) : Option (Int32) :=
  if (mI σ 19 6) ≤ x3 then
    (some x2)
  else
    (grd (inb x3 17) <|
    bnd1 ((
      if (mI σ 24 (x3.toNatClampNeg)) = a1 then
        (bnd1 (f_To_isStanding σ x3) fun r24 =>
        if r24 = 0 then
          (some x2)
        else
          (letv (x2 ||| (1 <<< (x3 &&& 31))) fun v35 =>
          some v35))
      else
        (some x2)) : Option (Int32)) fun y19_2 =>
    letv (x3 + 1) fun v36 =>
    rec y19_2 v36)
def L_To_standingOf_l4 (N : Nat) (a1 : Int32) (σ : Mem) : Nat → Int32 → Int32 → Option (Int32)
  | 0, _, _ => none
  | k + 1, x2, x3 => B_To_standingOf_l4 N a1 σ (L_To_standingOf_l4 N a1 σ k) x2 x3
set_option maxHeartbeats 4000000 in
set_option maxRecDepth 20000 in
theorem cL_To_standingOf_l4 (Z : ZX) {Y : YX} {post : Option Value → Mem → Prop} {N : Nat} {a1 : Int32} {σ : Mem} {Good : Int32 → Prop} (hR : ∀ (v : Int32), Good v → post (some (.int v)) σ) : ∀ (k : Nat) (x2 : Int32) (x3 : Int32) (res : Int32), L_To_standingOf_l4 N a1 σ k x2 x3 = some res → Good res → V (mkB Z) Y m_To_standingOf 2 (QP (mkB Z) Y nC 0 0 post) 0 0 nC σ 4 [(0, rf Z 19), (1, .int a1), (2, .int x2), (3, .int x3)] [] := by
  intro k
  induction k with
  | zero => intro x2 x3 res h; cases h
  | succ k ih =>
    intro x2 x3 res h hg
    replace h : B_To_standingOf_l4 N a1 σ (L_To_standingOf_l4 N a1 σ k) x2 x3 = some res := h
    unfold B_To_standingOf_l4 at h
    refine V.iload_n d_To_standingOf_4 rfl 3 rfl ?_
    refine V.aload_n d_To_standingOf_5 rfl 0 rfl ?_
    refine V.getI ok_To fl_To_30 (by decide) (by decide) ly_19 rfl d_To_standingOf_6 ?_
    refine V.icmp_ge (tgt := 42) d_To_standingOf_9 (by decide) (fun hc9 => ?_) (fun hc9 => ?_)
    · replace h := ite_t hc9 h
      refine V.iload_n d_To_standingOf_42 rfl 2 rfl ?_
      cases h
      exact V.iret rfl d_To_standingOf_43 (hR _ hg)
    · replace h := ite_f hc9 h
      refine V.aload_n d_To_standingOf_12 rfl 0 rfl ?_
      refine V.getR (r := 24) ok_To fl_To_24 (by decide) (by decide) ly_19 rfl d_To_standingOf_13 ?_
      refine V.iload_n d_To_standingOf_16 rfl 3 rfl ?_
      obtain ⟨gq, h⟩ := grd_e h
      refine V.ra (by decide) ly_24 (inb_e gq) rfl d_To_standingOf_17 ?_
      refine V.iload_n d_To_standingOf_18 rfl 1 rfl ?_
      obtain ⟨s19, h1, h⟩ := bnd1_e h
      have J19_36 : ∀ (y19_2 : Int32), s19 = y19_2 → V (mkB Z) Y m_To_standingOf 2 (QP (mkB Z) Y nC 0 0 post) 0 0 nC σ 36 [(0, rf Z 19), (1, .int a1), (2, .int y19_2), (3, .int x3)] [] := by
        intro y19_2 he
        rw [he] at h
        obtain ⟨v36, e_v36, h⟩ := letv_e h
        refine V.iinc (v := v36) (lv' := [(3, .int v36), (0, rf Z 19), (1, .int a1), (2, .int y19_2)]) d_To_standingOf_36 3 rfl (by rw [e_v36]; rfl) (by decide) rfl ?_
        refine V.goto (tgt := 4) d_To_standingOf_39 (by decide) ?_
        exact V.pick [1, 2, 3, 0] rfl (ih _ _ _ h hg)
      replace h := h1
      refine V.icmp_ne (tgt := 36) d_To_standingOf_19 (by decide) (fun hc19 => ?_) (fun hc19 => ?_)
      · replace h := ite_f hc19 h
        exact V.pick [0, 1, 2, 3] rfl (J19_36 _ (Option.some.inj h).symm)
      · replace h := ite_t hc19 h
        refine V.aload_n d_To_standingOf_22 rfl 0 rfl ?_
        refine V.iload_n d_To_standingOf_23 rfl 3 rfl ?_
        obtain ⟨r24, h1, h⟩ := bnd1_e h
        refine V.vI (as := [.int x3]) (st := []) (c_To_isStanding Z h1) k_To_isStanding lk_To_53 (by decide) rfl (by decide) ly_19 ok_To.1 rfl (Nat.le_of_ble_eq_true rfl) d_To_standingOf_24 ?_
        refine V.if_eq (tgt := 36) d_To_standingOf_27 (by decide) (fun hc27 => ?_) (fun hc27 => ?_)
        · replace h := ite_t hc27 h
          exact V.pick [0, 1, 2, 3] rfl (J19_36 _ (Option.some.inj h).symm)
        · replace h := ite_f hc27 h
          refine V.iload_n d_To_standingOf_30 rfl 2 rfl ?_
          refine V.iconst (v := 1) d_To_standingOf_31 (by decide) ?_
          refine V.iload_n d_To_standingOf_32 rfl 3 rfl ?_
          refine V.ishl d_To_standingOf_33 ?_
          refine V.ior d_To_standingOf_34 ?_
          obtain ⟨v35, e_v35, h⟩ := letv_e h
          refine V.topI e_v35 ?_
          refine V.istore_n (lv' := [(2, .int v35), (0, rf Z 19), (1, .int a1), (3, .int x3)]) d_To_standingOf_35 rfl (by decide) rfl ?_
          exact V.pick [1, 2, 0, 3] rfl (J19_36 _ (Option.some.inj h).symm)
def f_To_standingOf (N : Nat) (σ : Mem) (a1 : Int32) : Option (Int32) :=
  L_To_standingOf_l4 N a1 σ N 0 0
set_option maxHeartbeats 4000000 in
set_option maxRecDepth 20000 in
theorem c_To_standingOf (Z : ZX) {N : Nat} {σ : Mem} {a1 : Int32} {r : Int32} (h : f_To_standingOf N σ a1 = some r) : CI Z 2 m_To_standingOf [rf Z 19, .int a1] σ r σ := by
  refine Ct.of (by decide +kernel) (Nat.le_of_ble_eq_true rfl) (fun Y => ?_)
  show V (mkB Z) Y m_To_standingOf 2 (QP (mkB Z) Y nC 0 0 (fun v t => v = some (.int r) ∧ t = σ)) 0 0 nC σ 0 [(0, rf Z 19), (1, .int a1)] []
  unfold f_To_standingOf at h
  refine V.iconst (v := 0) d_To_standingOf_0 (by decide) ?_
  refine V.istore_n (lv' := [(2, .int 0), (0, rf Z 19), (1, .int a1)]) d_To_standingOf_1 rfl (by decide) rfl ?_
  refine V.iconst (v := 0) d_To_standingOf_2 (by decide) ?_
  refine V.istore_n (lv' := [(3, .int 0), (2, .int 0), (0, rf Z 19), (1, .int a1)]) d_To_standingOf_3 rfl (by decide) rfl ?_
  refine V.pick [2, 3, 1, 0] rfl (cL_To_standingOf_l4 Z (Good := fun z => z = _) (fun r4v he => ?_) N _ _ _ h rfl)
  · cases he
    exact ⟨rfl, rfl⟩
abbrev m_Da_partsOf : MI := (⟨"ShadeTown$Day", "partsOf", "(I)J"⟩, prog_3_method_15_code, 7, (Option.some Jvm.ClassFile.FieldType.long))
theorem d_Da_partsOf_0 : decode prog_3_method_15_code 0 = .ok (.lconst 0, 1) := by decide +kernel
theorem d_Da_partsOf_1 : decode prog_3_method_15_code 1 = .ok (.lstore_n 2, 1) := by decide +kernel
theorem d_Da_partsOf_2 : decode prog_3_method_15_code 2 = .ok (.iconst 0, 1) := by decide +kernel
theorem d_Da_partsOf_3 : decode prog_3_method_15_code 3 = .ok (.istore 4, 2) := by decide +kernel
theorem d_Da_partsOf_5 : decode prog_3_method_15_code 5 = .ok (.iload 4, 2) := by decide +kernel
theorem d_Da_partsOf_7 : decode prog_3_method_15_code 7 = .ok (.bipush 24, 2) := by decide +kernel
theorem d_Da_partsOf_74 : decode prog_3_method_15_code 74 = .ok (.lload_n 2, 1) := by decide +kernel
theorem d_Da_partsOf_75 : decode prog_3_method_15_code 75 = .ok (.lreturn, 1) := by decide +kernel
theorem d_Da_partsOf_12 : decode prog_3_method_15_code 12 = .ok (.iconst 0, 1) := by decide +kernel
theorem d_Da_partsOf_13 : decode prog_3_method_15_code 13 = .ok (.istore 5, 2) := by decide +kernel
theorem d_Da_partsOf_15 : decode prog_3_method_15_code 15 = .ok (.iload 5, 2) := by decide +kernel
theorem d_Da_partsOf_17 : decode prog_3_method_15_code 17 = .ok (.sipush 144, 3) := by decide +kernel
theorem d_Da_partsOf_23 : decode prog_3_method_15_code 23 = .ok (.aload_n 0, 1) := by decide +kernel
theorem d_Da_partsOf_24 : decode prog_3_method_15_code 24 = .ok (.iload 4, 2) := by decide +kernel
theorem d_Da_partsOf_26 : decode prog_3_method_15_code 26 = .ok (.iload 5, 2) := by decide +kernel
theorem d_Da_partsOf_28 : decode prog_3_method_15_code 28 = .ok (.invokevirtual 62, 3) := by decide +kernel
theorem d_Da_partsOf_31 : decode prog_3_method_15_code 31 = .ok (.istore 6, 2) := by decide +kernel
theorem d_Da_partsOf_33 : decode prog_3_method_15_code 33 = .ok (.iload 6, 2) := by decide +kernel
theorem d_Da_partsOf_35 : decode prog_3_method_15_code 35 = .ok (.iload_n 1, 1) := by decide +kernel
theorem d_Da_partsOf_36 : decode prog_3_method_15_code 36 = .ok (.iand, 1) := by decide +kernel
theorem d_Da_partsOf_40 : decode prog_3_method_15_code 40 = .ok (.lload_n 2, 1) := by decide +kernel
theorem kl_Da_66 : Cond.constantLong "ShadeTown$Day" 66 (720720) ∈ tblG := atG 903 (by decide +kernel) rfl
theorem d_Da_partsOf_41 : decode prog_3_method_15_code 41 = .ok (.ldc2_w 66, 3) := by decide +kernel
theorem d_Da_partsOf_44 : decode prog_3_method_15_code 44 = .ok (.iload 6, 2) := by decide +kernel
theorem d_Da_partsOf_46 : decode prog_3_method_15_code 46 = .ok (.invokestatic 68, 3) := by decide +kernel
theorem d_Da_partsOf_49 : decode prog_3_method_15_code 49 = .ok (.i2l, 1) := by decide +kernel
theorem d_Da_partsOf_50 : decode prog_3_method_15_code 50 = .ok (.ldiv, 1) := by decide +kernel
theorem d_Da_partsOf_51 : decode prog_3_method_15_code 51 = .ok (.iload 6, 2) := by decide +kernel
theorem d_Da_partsOf_53 : decode prog_3_method_15_code 53 = .ok (.iload_n 1, 1) := by decide +kernel
theorem d_Da_partsOf_54 : decode prog_3_method_15_code 54 = .ok (.iand, 1) := by decide +kernel
theorem d_Da_partsOf_55 : decode prog_3_method_15_code 55 = .ok (.invokestatic 68, 3) := by decide +kernel
theorem d_Da_partsOf_58 : decode prog_3_method_15_code 58 = .ok (.i2l, 1) := by decide +kernel
theorem d_Da_partsOf_59 : decode prog_3_method_15_code 59 = .ok (.lmul, 1) := by decide +kernel
theorem d_Da_partsOf_60 : decode prog_3_method_15_code 60 = .ok (.ladd, 1) := by decide +kernel
theorem d_Da_partsOf_61 : decode prog_3_method_15_code 61 = .ok (.lstore_n 2, 1) := by decide +kernel
theorem d_Da_partsOf_37 : decode prog_3_method_15_code 37 = .ok (.ifCond .eq 25, 3) := by decide +kernel
theorem d_Da_partsOf_62 : decode prog_3_method_15_code 62 = .ok (.iinc 5 1, 3) := by decide +kernel
theorem d_Da_partsOf_65 : decode prog_3_method_15_code 65 = .ok (.goto (-50), 3) := by decide +kernel
theorem d_Da_partsOf_20 : decode prog_3_method_15_code 20 = .ok (.if_icmp .ge 48, 3) := by decide +kernel
theorem d_Da_partsOf_68 : decode prog_3_method_15_code 68 = .ok (.iinc 4 1, 3) := by decide +kernel
theorem d_Da_partsOf_71 : decode prog_3_method_15_code 71 = .ok (.goto (-66), 3) := by decide +kernel
theorem d_Da_partsOf_9 : decode prog_3_method_15_code 9 = .ok (.if_icmp .ge 65, 3) := by decide +kernel
def B_Da_partsOf_l15 (N : Nat) (a1 : Int32) (a4 : Int32) (σ : Mem) (rec : Int64 → Int32 → Option (Int64)) (x2 : Int64) (x5 : Int32) : Option (Int64) :=
  if 144 ≤ x5 then
    (some x2)
  else
    (bnd1 (f_Da_whoCasts σ a4 x5) fun r28 =>
    bnd1 ((
      if (r28 &&& a1) = 0 then
        (some x2)
      else
        (bnd1 (f_JI_bitCount_0f7a4 r28) fun r46 =>
        grd (decide (¬ (r46.toInt64) = 0)) <|
        bnd1 (f_JI_bitCount_0f7a4 (r28 &&& a1)) fun r55 =>
        letv (x2 + ((720720 / (r46.toInt64)) * (r55.toInt64))) fun v61 =>
        some v61)) : Option (Int64)) fun y37_2 =>
    letv (x5 + 1) fun v62 =>
    rec y37_2 v62)
def L_Da_partsOf_l15 (N : Nat) (a1 : Int32) (a4 : Int32) (σ : Mem) : Nat → Int64 → Int32 → Option (Int64)
  | 0, _, _ => none
  | k + 1, x2, x5 => B_Da_partsOf_l15 N a1 a4 σ (L_Da_partsOf_l15 N a1 a4 σ k) x2 x5
set_option maxHeartbeats 4000000 in
set_option maxRecDepth 20000 in
theorem cL_Da_partsOf_l15 (Z : ZX) {Y : YX} {Q : State → Prop} {N : Nat} {a1 : Int32} {a4 : Int32} {σ : Mem} {Good : Int64 → Prop} (hE : ∀ (o2 : Int64), Good o2 → V (mkB Z) Y m_Da_partsOf 2 Q 0 0 nC σ 68 [(0, rf Z 33), (1, .int a1), (2, .long o2), (4, .int a4)] []) : ∀ (k : Nat) (x2 : Int64) (x5 : Int32) (res : Int64), L_Da_partsOf_l15 N a1 a4 σ k x2 x5 = some res → Good res → V (mkB Z) Y m_Da_partsOf 2 Q 0 0 nC σ 15 [(0, rf Z 33), (1, .int a1), (2, .long x2), (4, .int a4), (5, .int x5)] [] := by
  intro k
  induction k with
  | zero => intro x2 x5 res h; cases h
  | succ k ih =>
    intro x2 x5 res h hg
    replace h : B_Da_partsOf_l15 N a1 a4 σ (L_Da_partsOf_l15 N a1 a4 σ k) x2 x5 = some res := h
    unfold B_Da_partsOf_l15 at h
    refine V.iload d_Da_partsOf_15 4 rfl ?_
    refine V.sipush (v := 144) d_Da_partsOf_17 (by decide) ?_
    refine V.icmp_ge (tgt := 68) d_Da_partsOf_20 (by decide) (fun hc20 => ?_) (fun hc20 => ?_)
    · replace h := ite_t hc20 h
      cases h
      exact V.pick [0, 1, 2, 3] rfl (hE _ hg)
    · replace h := ite_f hc20 h
      refine V.aload_n d_Da_partsOf_23 rfl 0 rfl ?_
      refine V.iload d_Da_partsOf_24 3 rfl ?_
      refine V.iload d_Da_partsOf_26 4 rfl ?_
      obtain ⟨r28, h1, h⟩ := bnd1_e h
      refine V.vI (as := [.int a4, .int x5]) (st := []) (c_Da_whoCasts Z h1) k_Da_whoCasts lk_Da_62 (by decide) rfl (by decide) ly_33 ok_Da.1 rfl (Nat.le_of_ble_eq_true rfl) d_Da_partsOf_28 ?_
      refine V.istore (lv' := [(6, .int r28), (0, rf Z 33), (1, .int a1), (2, .long x2), (4, .int a4), (5, .int x5)]) d_Da_partsOf_31 (by decide) rfl ?_
      refine V.iload d_Da_partsOf_33 0 rfl ?_
      refine V.iload_n d_Da_partsOf_35 rfl 2 rfl ?_
      refine V.iand d_Da_partsOf_36 ?_
      obtain ⟨s37, h1, h⟩ := bnd1_e h
      have J37_62 : ∀ (y37_2 : Int64), s37 = y37_2 → V (mkB Z) Y m_Da_partsOf 2 Q 0 0 nC σ 62 [(0, rf Z 33), (1, .int a1), (2, .long y37_2), (4, .int a4), (5, .int x5)] [] := by
        intro y37_2 he
        rw [he] at h
        obtain ⟨v62, e_v62, h⟩ := letv_e h
        refine V.iinc (v := v62) (lv' := [(5, .int v62), (0, rf Z 33), (1, .int a1), (2, .long y37_2), (4, .int a4)]) d_Da_partsOf_62 4 rfl (by rw [e_v62]; rfl) (by decide) rfl ?_
        refine V.goto (tgt := 15) d_Da_partsOf_65 (by decide) ?_
        exact V.pick [1, 2, 3, 4, 0] rfl (ih _ _ _ h hg)
      replace h := h1
      refine V.if_eq (tgt := 62) d_Da_partsOf_37 (by decide) (fun hc37 => ?_) (fun hc37 => ?_)
      · replace h := ite_t hc37 h
        exact V.pick [1, 2, 3, 4, 5] rfl (J37_62 _ (Option.some.inj h).symm)
      · replace h := ite_f hc37 h
        refine V.lload_n d_Da_partsOf_40 rfl 3 rfl ?_
        refine V.ldc2 (v := 720720) kl_Da_66 d_Da_partsOf_41 ?_
        refine V.iload d_Da_partsOf_44 0 rfl ?_
        obtain ⟨r46, h1, h⟩ := bnd1_e h
        refine V.sI (as := [.int r28]) (st := [.long 720720, .long x2]) (c_JI_bitCount_0f7a4 Z h1) k_JI_bitCount_0f7a4 lk_Da_68 (by decide) rfl rfl (Nat.le_of_ble_eq_true rfl) d_Da_partsOf_46 ?_
        refine V.i2l d_Da_partsOf_49 ?_
        obtain ⟨gq, h⟩ := grd_e h
        refine V.ldiv d_Da_partsOf_50 (of_decide_eq_true gq) ?_
        refine V.iload d_Da_partsOf_51 0 rfl ?_
        refine V.iload_n d_Da_partsOf_53 rfl 2 rfl ?_
        refine V.iand d_Da_partsOf_54 ?_
        obtain ⟨r55, h1, h⟩ := bnd1_e h
        refine V.sI (as := [.int (r28 &&& a1)]) (st := [.long (720720 / (r46.toInt64)), .long x2]) (c_JI_bitCount_0f7a4 Z h1) k_JI_bitCount_0f7a4 lk_Da_68 (by decide) rfl rfl (Nat.le_of_ble_eq_true rfl) d_Da_partsOf_55 ?_
        refine V.i2l d_Da_partsOf_58 ?_
        refine V.lmul d_Da_partsOf_59 ?_
        refine V.ladd d_Da_partsOf_60 ?_
        obtain ⟨v61, e_v61, h⟩ := letv_e h
        refine V.topL e_v61 ?_
        refine V.lstore_n (lv' := [(2, .long v61), (6, .int r28), (0, rf Z 33), (1, .int a1), (4, .int a4), (5, .int x5)]) d_Da_partsOf_61 rfl (by decide) rfl ?_
        exact V.pick [2, 3, 0, 4, 5] rfl (J37_62 _ (Option.some.inj h).symm)
def B_Da_partsOf_l5 (N : Nat) (a1 : Int32) (σ : Mem) (rec : Int64 → Int32 → Option (Int64)) (x2 : Int64) (x4 : Int32) : Option (Int64) :=
  if 24 ≤ x4 then
    (some x2)
  else
    (bnd1 (L_Da_partsOf_l15 N a1 x4 σ N x2 0) fun z15_2 =>
    letv (x4 + 1) fun v68 =>
    rec z15_2 v68)
def L_Da_partsOf_l5 (N : Nat) (a1 : Int32) (σ : Mem) : Nat → Int64 → Int32 → Option (Int64)
  | 0, _, _ => none
  | k + 1, x2, x4 => B_Da_partsOf_l5 N a1 σ (L_Da_partsOf_l5 N a1 σ k) x2 x4
set_option maxHeartbeats 4000000 in
set_option maxRecDepth 20000 in
theorem cL_Da_partsOf_l5 (Z : ZX) {Y : YX} {post : Option Value → Mem → Prop} {N : Nat} {a1 : Int32} {σ : Mem} {Good : Int64 → Prop} (hR : ∀ (v : Int64), Good v → post (some (.long v)) σ) : ∀ (k : Nat) (x2 : Int64) (x4 : Int32) (res : Int64), L_Da_partsOf_l5 N a1 σ k x2 x4 = some res → Good res → V (mkB Z) Y m_Da_partsOf 2 (QP (mkB Z) Y nC 0 0 post) 0 0 nC σ 5 [(0, rf Z 33), (1, .int a1), (2, .long x2), (4, .int x4)] [] := by
  intro k
  induction k with
  | zero => intro x2 x4 res h; cases h
  | succ k ih =>
    intro x2 x4 res h hg
    replace h : B_Da_partsOf_l5 N a1 σ (L_Da_partsOf_l5 N a1 σ k) x2 x4 = some res := h
    unfold B_Da_partsOf_l5 at h
    refine V.iload d_Da_partsOf_5 3 rfl ?_
    refine V.bipush (v := 24) d_Da_partsOf_7 (by decide) ?_
    refine V.icmp_ge (tgt := 74) d_Da_partsOf_9 (by decide) (fun hc9 => ?_) (fun hc9 => ?_)
    · replace h := ite_t hc9 h
      refine V.lload_n d_Da_partsOf_74 rfl 2 rfl ?_
      cases h
      exact V.lret rfl d_Da_partsOf_75 (hR _ hg)
    · replace h := ite_f hc9 h
      refine V.iconst (v := 0) d_Da_partsOf_12 (by decide) ?_
      refine V.istore (lv' := [(5, .int 0), (0, rf Z 33), (1, .int a1), (2, .long x2), (4, .int x4)]) d_Da_partsOf_13 (by decide) rfl ?_
      obtain ⟨x15_, h1, h⟩ := bnd1_e h
      refine V.pick [1, 2, 3, 4, 0] rfl (cL_Da_partsOf_l15 Z (Good := fun z => x15_ = z) (fun z15_2 he => ?_) N _ _ _ h1 rfl)
      · rw [he] at h
        obtain ⟨v68, e_v68, h⟩ := letv_e h
        refine V.iinc (v := v68) (lv' := [(4, .int v68), (0, rf Z 33), (1, .int a1), (2, .long z15_2)]) d_Da_partsOf_68 3 rfl (by rw [e_v68]; rfl) (by decide) rfl ?_
        refine V.goto (tgt := 5) d_Da_partsOf_71 (by decide) ?_
        exact V.pick [1, 2, 3, 0] rfl (ih _ _ _ h hg)
def f_Da_partsOf (N : Nat) (σ : Mem) (a1 : Int32) : Option (Int64) :=
  L_Da_partsOf_l5 N a1 σ N 0 0
set_option maxHeartbeats 4000000 in
set_option maxRecDepth 20000 in
theorem c_Da_partsOf (Z : ZX) {N : Nat} {σ : Mem} {a1 : Int32} {r : Int64} (h : f_Da_partsOf N σ a1 = some r) : CJ Z 2 m_Da_partsOf [rf Z 33, .int a1] σ r σ := by
  refine Ct.of (by decide +kernel) (Nat.le_of_ble_eq_true rfl) (fun Y => ?_)
  show V (mkB Z) Y m_Da_partsOf 2 (QP (mkB Z) Y nC 0 0 (fun v t => v = some (.long r) ∧ t = σ)) 0 0 nC σ 0 [(0, rf Z 33), (1, .int a1)] []
  unfold f_Da_partsOf at h
  refine V.lconst (v := 0) d_Da_partsOf_0 (by decide) ?_
  refine V.lstore_n (lv' := [(2, .long 0), (0, rf Z 33), (1, .int a1)]) d_Da_partsOf_1 rfl (by decide) rfl ?_
  refine V.iconst (v := 0) d_Da_partsOf_2 (by decide) ?_
  refine V.istore (lv' := [(4, .int 0), (2, .long 0), (0, rf Z 33), (1, .int a1)]) d_Da_partsOf_3 (by decide) rfl ?_
  refine V.pick [2, 3, 1, 0] rfl (cL_Da_partsOf_l5 Z (Good := fun z => z = _) (fun r5v he => ?_) N _ _ _ h rfl)
  · cases he
    exact ⟨rfl, rfl⟩
abbrev m_Sh_commonDivisor : MI := (⟨"ShadeTown", "commonDivisor", "(JJ)J"⟩, prog_1_method_51_code, 11, (Option.some Jvm.ClassFile.FieldType.long))
theorem d_Sh_commonDivisor_0 : decode prog_1_method_51_code 0 = .ok (.lload_n 0, 1) := by decide +kernel
theorem d_Sh_commonDivisor_1 : decode prog_1_method_51_code 1 = .ok (.lstore 4, 2) := by decide +kernel
theorem d_Sh_commonDivisor_3 : decode prog_1_method_51_code 3 = .ok (.lload_n 2, 1) := by decide +kernel
theorem d_Sh_commonDivisor_4 : decode prog_1_method_51_code 4 = .ok (.lstore 6, 2) := by decide +kernel
theorem d_Sh_commonDivisor_6 : decode prog_1_method_51_code 6 = .ok (.iconst 0, 1) := by decide +kernel
theorem d_Sh_commonDivisor_7 : decode prog_1_method_51_code 7 = .ok (.istore 8, 2) := by decide +kernel
theorem d_Sh_commonDivisor_9 : decode prog_1_method_51_code 9 = .ok (.iload 8, 2) := by decide +kernel
theorem d_Sh_commonDivisor_11 : decode prog_1_method_51_code 11 = .ok (.sipush 200, 3) := by decide +kernel
theorem d_Sh_commonDivisor_17 : decode prog_1_method_51_code 17 = .ok (.lload 6, 2) := by decide +kernel
theorem d_Sh_commonDivisor_19 : decode prog_1_method_51_code 19 = .ok (.lconst 0, 1) := by decide +kernel
theorem d_Sh_commonDivisor_20 : decode prog_1_method_51_code 20 = .ok (.lcmp, 1) := by decide +kernel
theorem d_Sh_commonDivisor_24 : decode prog_1_method_51_code 24 = .ok (.lload 4, 2) := by decide +kernel
theorem d_Sh_commonDivisor_26 : decode prog_1_method_51_code 26 = .ok (.lload 6, 2) := by decide +kernel
theorem d_Sh_commonDivisor_28 : decode prog_1_method_51_code 28 = .ok (.lrem, 1) := by decide +kernel
theorem d_Sh_commonDivisor_29 : decode prog_1_method_51_code 29 = .ok (.lstore 9, 2) := by decide +kernel
theorem d_Sh_commonDivisor_31 : decode prog_1_method_51_code 31 = .ok (.lload 6, 2) := by decide +kernel
theorem d_Sh_commonDivisor_33 : decode prog_1_method_51_code 33 = .ok (.lstore 4, 2) := by decide +kernel
theorem d_Sh_commonDivisor_35 : decode prog_1_method_51_code 35 = .ok (.lload 9, 2) := by decide +kernel
theorem d_Sh_commonDivisor_37 : decode prog_1_method_51_code 37 = .ok (.lstore 6, 2) := by decide +kernel
theorem d_Sh_commonDivisor_39 : decode prog_1_method_51_code 39 = .ok (.iinc 8 1, 3) := by decide +kernel
theorem d_Sh_commonDivisor_42 : decode prog_1_method_51_code 42 = .ok (.goto (-33), 3) := by decide +kernel
theorem d_Sh_commonDivisor_21 : decode prog_1_method_51_code 21 = .ok (.ifCond .eq 24, 3) := by decide +kernel
theorem d_Sh_commonDivisor_14 : decode prog_1_method_51_code 14 = .ok (.if_icmp .ge 31, 3) := by decide +kernel
theorem d_Sh_commonDivisor_45 : decode prog_1_method_51_code 45 = .ok (.lload 4, 2) := by decide +kernel
theorem d_Sh_commonDivisor_47 : decode prog_1_method_51_code 47 = .ok (.lreturn, 1) := by decide +kernel
def B_Sh_commonDivisor_l9 (N : Nat) (rec : Int64 → Int64 → Int32 → Option (Int64)) (x4 : Int64) (x6 : Int64) (x8 : Int32) : Option (Int64) :=
  if 200 ≤ x8 then
    (some x4)
  else
    (if (lg_cmp x6 0) = 0 then
      (some x4)
    else
      (grd (decide (¬ x6 = 0)) <|
      letv (x4 - x4 / x6 * x6) fun v29 =>
      letv (x8 + 1) fun v39 =>
      rec x6 v29 v39))
def L_Sh_commonDivisor_l9 (N : Nat) : Nat → Int64 → Int64 → Int32 → Option (Int64)
  | 0, _, _, _ => none
  | k + 1, x4, x6, x8 => B_Sh_commonDivisor_l9 N (L_Sh_commonDivisor_l9 N k) x4 x6 x8
set_option maxHeartbeats 4000000 in
set_option maxRecDepth 20000 in
theorem cL_Sh_commonDivisor_l9 (Z : ZX) {Y : YX} {Q : State → Prop} {N : Nat} {σ : Mem} {Good : Int64 → Prop} (hE : ∀ (o4 : Int64), Good o4 → V (mkB Z) Y m_Sh_commonDivisor 0 Q 0 0 nC σ 45 [(4, .long o4)] []) : ∀ (k : Nat) (x4 : Int64) (x6 : Int64) (x8 : Int32) (res : Int64), L_Sh_commonDivisor_l9 N k x4 x6 x8 = some res → Good res → V (mkB Z) Y m_Sh_commonDivisor 0 Q 0 0 nC σ 9 [(4, .long x4), (6, .long x6), (8, .int x8)] [] := by
  intro k
  induction k with
  | zero => intro x4 x6 x8 res h; cases h
  | succ k ih =>
    intro x4 x6 x8 res h hg
    replace h : B_Sh_commonDivisor_l9 N (L_Sh_commonDivisor_l9 N k) x4 x6 x8 = some res := h
    unfold B_Sh_commonDivisor_l9 at h
    refine V.iload d_Sh_commonDivisor_9 2 rfl ?_
    refine V.sipush (v := 200) d_Sh_commonDivisor_11 (by decide) ?_
    refine V.icmp_ge (tgt := 45) d_Sh_commonDivisor_14 (by decide) (fun hc14 => ?_) (fun hc14 => ?_)
    · replace h := ite_t hc14 h
      cases h
      exact V.pick [0] rfl (hE _ hg)
    · replace h := ite_f hc14 h
      refine V.lload d_Sh_commonDivisor_17 1 rfl ?_
      refine V.lconst (v := 0) d_Sh_commonDivisor_19 (by decide) ?_
      refine V.lcmp d_Sh_commonDivisor_20 ?_
      refine V.if_eq (tgt := 45) d_Sh_commonDivisor_21 (by decide) (fun hc21 => ?_) (fun hc21 => ?_)
      · replace h := ite_t hc21 h
        cases h
        exact V.pick [0] rfl (hE _ hg)
      · replace h := ite_f hc21 h
        refine V.lload d_Sh_commonDivisor_24 0 rfl ?_
        refine V.lload d_Sh_commonDivisor_26 1 rfl ?_
        obtain ⟨gq, h⟩ := grd_e h
        refine V.lrem d_Sh_commonDivisor_28 (of_decide_eq_true gq) ?_
        obtain ⟨v29, e_v29, h⟩ := letv_e h
        refine V.topL e_v29 ?_
        refine V.lstore (lv' := [(9, .long v29), (4, .long x4), (6, .long x6), (8, .int x8)]) d_Sh_commonDivisor_29 (by decide) rfl ?_
        refine V.lload d_Sh_commonDivisor_31 2 rfl ?_
        refine V.lstore (lv' := [(4, .long x6), (9, .long v29), (6, .long x6), (8, .int x8)]) d_Sh_commonDivisor_33 (by decide) rfl ?_
        refine V.lload d_Sh_commonDivisor_35 1 rfl ?_
        refine V.lstore (lv' := [(6, .long v29), (4, .long x6), (9, .long v29), (8, .int x8)]) d_Sh_commonDivisor_37 (by decide) rfl ?_
        obtain ⟨v39, e_v39, h⟩ := letv_e h
        refine V.iinc (v := v39) (lv' := [(8, .int v39), (6, .long v29), (4, .long x6), (9, .long v29)]) d_Sh_commonDivisor_39 3 rfl (by rw [e_v39]; rfl) (by decide) rfl ?_
        refine V.goto (tgt := 9) d_Sh_commonDivisor_42 (by decide) ?_
        exact V.pick [2, 1, 0] rfl (ih _ _ _ _ h hg)
def f_Sh_commonDivisor (N : Nat) (a0 : Int64) (a2 : Int64) : Option (Int64) :=
  bnd1 (L_Sh_commonDivisor_l9 N N a0 a2 0) fun z9_4 =>
  some z9_4
set_option maxHeartbeats 4000000 in
set_option maxRecDepth 20000 in
theorem c_Sh_commonDivisor (Z : ZX) {N : Nat} {σ : Mem} {a0 : Int64} {a2 : Int64} {r : Int64} (h : f_Sh_commonDivisor N a0 a2 = some r) : CJ Z 0 m_Sh_commonDivisor [.long a0, .long a2] σ r σ := by
  refine Ct.of (by decide +kernel) (Nat.le_of_ble_eq_true rfl) (fun Y => ?_)
  show V (mkB Z) Y m_Sh_commonDivisor 0 (QP (mkB Z) Y nC 0 0 (fun v t => v = some (.long r) ∧ t = σ)) 0 0 nC σ 0 [(0, .long a0), (2, .long a2)] []
  unfold f_Sh_commonDivisor at h
  refine V.lload_n d_Sh_commonDivisor_0 rfl 0 rfl ?_
  refine V.lstore (lv' := [(4, .long a0), (0, .long a0), (2, .long a2)]) d_Sh_commonDivisor_1 (by decide) rfl ?_
  refine V.lload_n d_Sh_commonDivisor_3 rfl 2 rfl ?_
  refine V.lstore (lv' := [(6, .long a2), (4, .long a0), (0, .long a0), (2, .long a2)]) d_Sh_commonDivisor_4 (by decide) rfl ?_
  refine V.iconst (v := 0) d_Sh_commonDivisor_6 (by decide) ?_
  refine V.istore (lv' := [(8, .int 0), (6, .long a2), (4, .long a0), (0, .long a0), (2, .long a2)]) d_Sh_commonDivisor_7 (by decide) rfl ?_
  obtain ⟨x9_, h1, h⟩ := bnd1_e h
  refine V.pick [2, 1, 0] rfl (cL_Sh_commonDivisor_l9 Z (Good := fun z => x9_ = z) (fun z9_4 he => ?_) N _ _ _ _ h1 rfl)
  · rw [he] at h
    refine V.lload d_Sh_commonDivisor_45 0 rfl ?_
    cases h
    exact V.lret rfl d_Sh_commonDivisor_47 ⟨rfl, rfl⟩
abbrev m_Sh_lowest : MI := (⟨"ShadeTown", "lowest", "(JJI)J"⟩, prog_1_method_50_code, 7, (Option.some Jvm.ClassFile.FieldType.long))
theorem d_Sh_lowest_0 : decode prog_1_method_50_code 0 = .ok (.lload_n 0, 1) := by decide +kernel
theorem d_Sh_lowest_1 : decode prog_1_method_50_code 1 = .ok (.lload_n 2, 1) := by decide +kernel
theorem d_Sh_lowest_2 : decode prog_1_method_50_code 2 = .ok (.invokestatic 394, 3) := by decide +kernel
theorem k_Sh_commonDivisor : MOk m_Sh_commonDivisor 2 ∧ Cond.static m_Sh_commonDivisor.1 ∈ tblG := ⟨⟨atG 910 (by decide +kernel) rfl, atG 111 (by decide +kernel) rfl, ⟨by decide, by decide⟩, by decide +kernel, by decide⟩, atG 909 (by decide +kernel) rfl⟩
theorem lk_Sh_394 : Cond.methodLink "ShadeTown" 394 ⟨"ShadeTown", "commonDivisor", "(JJ)J"⟩ ∈ tblG := atG 908 (by decide +kernel) rfl
theorem d_Sh_lowest_5 : decode prog_1_method_50_code 5 = .ok (.lstore 5, 2) := by decide +kernel
theorem d_Sh_lowest_7 : decode prog_1_method_50_code 7 = .ok (.lload 5, 2) := by decide +kernel
theorem d_Sh_lowest_9 : decode prog_1_method_50_code 9 = .ok (.lconst 0, 1) := by decide +kernel
theorem d_Sh_lowest_10 : decode prog_1_method_50_code 10 = .ok (.lcmp, 1) := by decide +kernel
theorem d_Sh_lowest_18 : decode prog_1_method_50_code 18 = .ok (.iload 4, 2) := by decide +kernel
theorem d_Sh_lowest_30 : decode prog_1_method_50_code 30 = .ok (.lload_n 2, 1) := by decide +kernel
theorem d_Sh_lowest_31 : decode prog_1_method_50_code 31 = .ok (.lload 5, 2) := by decide +kernel
theorem d_Sh_lowest_33 : decode prog_1_method_50_code 33 = .ok (.ldiv, 1) := by decide +kernel
theorem d_Sh_lowest_34 : decode prog_1_method_50_code 34 = .ok (.lreturn, 1) := by decide +kernel
theorem d_Sh_lowest_23 : decode prog_1_method_50_code 23 = .ok (.lload_n 0, 1) := by decide +kernel
theorem d_Sh_lowest_24 : decode prog_1_method_50_code 24 = .ok (.lload 5, 2) := by decide +kernel
theorem d_Sh_lowest_26 : decode prog_1_method_50_code 26 = .ok (.ldiv, 1) := by decide +kernel
theorem d_Sh_lowest_27 : decode prog_1_method_50_code 27 = .ok (.goto 7, 3) := by decide +kernel
theorem d_Sh_lowest_20 : decode prog_1_method_50_code 20 = .ok (.ifCond .ne 10, 3) := by decide +kernel
theorem kl_Sh_207 : Cond.constantLong "ShadeTown" 207 ((-1)) ∈ tblG := atG 894 (by decide +kernel) rfl
theorem d_Sh_lowest_14 : decode prog_1_method_50_code 14 = .ok (.ldc2_w 207, 3) := by decide +kernel
theorem d_Sh_lowest_17 : decode prog_1_method_50_code 17 = .ok (.lreturn, 1) := by decide +kernel
theorem d_Sh_lowest_11 : decode prog_1_method_50_code 11 = .ok (.ifCond .ne 7, 3) := by decide +kernel
def f_Sh_lowest (N : Nat) (a0 : Int64) (a2 : Int64) (a4 : Int32) : Option (Int64) :=
  bnd1 (f_Sh_commonDivisor N a0 a2) fun r2 =>
  if (lg_cmp r2 0) = 0 then
    (some (-1))
  else
    (if a4 = 0 then
      (grd (decide (¬ r2 = 0)) <|
      some (a0 / r2))
    else
      (grd (decide (¬ r2 = 0)) <|
      some (a2 / r2)))
set_option maxHeartbeats 4000000 in
set_option maxRecDepth 20000 in
theorem c_Sh_lowest (Z : ZX) {N : Nat} {σ : Mem} {a0 : Int64} {a2 : Int64} {a4 : Int32} {r : Int64} (h : f_Sh_lowest N a0 a2 a4 = some r) : CJ Z 1 m_Sh_lowest [.long a0, .long a2, .int a4] σ r σ := by
  refine Ct.of (by decide +kernel) (Nat.le_of_ble_eq_true rfl) (fun Y => ?_)
  show V (mkB Z) Y m_Sh_lowest 1 (QP (mkB Z) Y nC 0 0 (fun v t => v = some (.long r) ∧ t = σ)) 0 0 nC σ 0 [(0, .long a0), (2, .long a2), (4, .int a4)] []
  unfold f_Sh_lowest at h
  refine V.lload_n d_Sh_lowest_0 rfl 0 rfl ?_
  refine V.lload_n d_Sh_lowest_1 rfl 1 rfl ?_
  obtain ⟨r2, h1, h⟩ := bnd1_e h
  refine V.sJ (as := [.long a0, .long a2]) (st := []) (c_Sh_commonDivisor Z h1) k_Sh_commonDivisor lk_Sh_394 (by decide) rfl rfl (Nat.le_of_ble_eq_true rfl) d_Sh_lowest_2 ?_
  refine V.lstore (lv' := [(5, .long r2), (0, .long a0), (2, .long a2), (4, .int a4)]) d_Sh_lowest_5 (by decide) rfl ?_
  refine V.lload d_Sh_lowest_7 0 rfl ?_
  refine V.lconst (v := 0) d_Sh_lowest_9 (by decide) ?_
  refine V.lcmp d_Sh_lowest_10 ?_
  refine V.if_ne (tgt := 18) d_Sh_lowest_11 (by decide) (fun hc11 => ?_) (fun hc11 => ?_)
  · replace h := ite_f hc11 h
    refine V.iload d_Sh_lowest_18 3 rfl ?_
    refine V.if_ne (tgt := 30) d_Sh_lowest_20 (by decide) (fun hc20 => ?_) (fun hc20 => ?_)
    · replace h := ite_f hc20 h
      refine V.lload_n d_Sh_lowest_30 rfl 2 rfl ?_
      refine V.lload d_Sh_lowest_31 0 rfl ?_
      obtain ⟨gq, h⟩ := grd_e h
      refine V.ldiv d_Sh_lowest_33 (of_decide_eq_true gq) ?_
      cases h
      exact V.lret rfl d_Sh_lowest_34 ⟨rfl, rfl⟩
    · replace h := ite_t hc20 h
      refine V.lload_n d_Sh_lowest_23 rfl 1 rfl ?_
      refine V.lload d_Sh_lowest_24 0 rfl ?_
      obtain ⟨gq, h⟩ := grd_e h
      refine V.ldiv d_Sh_lowest_26 (of_decide_eq_true gq) ?_
      refine V.goto (tgt := 34) d_Sh_lowest_27 (by decide) ?_
      cases h
      exact V.lret rfl d_Sh_lowest_34 ⟨rfl, rfl⟩
  · replace h := ite_t hc11 h
    refine V.ldc2 (v := (-1)) kl_Sh_207 d_Sh_lowest_14 ?_
    cases h
    exact V.lret rfl d_Sh_lowest_17 ⟨rfl, rfl⟩
