abbrev m_Ta_hasRoomFor : MI := (⟨"ShadeTown$Tape", "hasRoomFor", "(I)Z"⟩, prog_8_method_2_code, 2, (Option.some Jvm.ClassFile.FieldType.boolean))
theorem d_Ta_hasRoomFor_0 : decode prog_8_method_2_code 0 = .ok (.aload_n 0, 1) := by decide +kernel
theorem fl_Ta_15 : FL "ShadeTown$Tape" 15 T_Ta 1 := atG 147 (by decide +kernel) rfl
theorem d_Ta_hasRoomFor_1 : decode prog_8_method_2_code 1 = .ok (.getfield 15, 3) := by decide +kernel
theorem d_Ta_hasRoomFor_4 : decode prog_8_method_2_code 4 = .ok (.iload_n 1, 1) := by decide +kernel
theorem d_Ta_hasRoomFor_5 : decode prog_8_method_2_code 5 = .ok (.iadd, 1) := by decide +kernel
theorem d_Ta_hasRoomFor_6 : decode prog_8_method_2_code 6 = .ok (.sipush 260, 3) := by decide +kernel
theorem d_Ta_hasRoomFor_16 : decode prog_8_method_2_code 16 = .ok (.iconst 0, 1) := by decide +kernel
theorem d_Ta_hasRoomFor_17 : decode prog_8_method_2_code 17 = .ok (.ireturn, 1) := by decide +kernel
theorem d_Ta_hasRoomFor_12 : decode prog_8_method_2_code 12 = .ok (.iconst 1, 1) := by decide +kernel
theorem d_Ta_hasRoomFor_13 : decode prog_8_method_2_code 13 = .ok (.goto 4, 3) := by decide +kernel
theorem d_Ta_hasRoomFor_9 : decode prog_8_method_2_code 9 = .ok (.if_icmp .gt 7, 3) := by decide +kernel
def f_Ta_hasRoomFor (σ : Mem) (a1 : Int32) : Option (Int32) :=
  if 260 < (mI σ 1 1) + a1 then
    (some 0)
  else
    (some 1)
set_option maxHeartbeats 4000000 in
set_option maxRecDepth 20000 in
theorem c_Ta_hasRoomFor (Z : ZX) {σ : Mem} {a1 : Int32} {r : Int32} (h : f_Ta_hasRoomFor σ a1 = some r) : CI Z 0 m_Ta_hasRoomFor [rf Z 1, .int a1] σ r σ := by
  refine Ct.of (by decide +kernel) (Nat.le_of_ble_eq_true rfl) (fun Y => ?_)
  show V (mkB Z) Y m_Ta_hasRoomFor 0 (QP (mkB Z) Y nC 0 0 (fun v t => v = some (.int r) ∧ t = σ)) 0 0 nC σ 0 [(0, rf Z 1), (1, .int a1)] []
  unfold f_Ta_hasRoomFor at h
  refine V.aload_n d_Ta_hasRoomFor_0 rfl 0 rfl ?_
  refine V.getI ok_Ta fl_Ta_15 (by decide) (by decide) ly_1 rfl d_Ta_hasRoomFor_1 ?_
  refine V.iload_n d_Ta_hasRoomFor_4 rfl 1 rfl ?_
  refine V.iadd d_Ta_hasRoomFor_5 ?_
  refine V.sipush (v := 260) d_Ta_hasRoomFor_6 (by decide) ?_
  refine V.icmp_gt (tgt := 16) d_Ta_hasRoomFor_9 (by decide) (fun hc9 => ?_) (fun hc9 => ?_)
  · replace h := ite_t hc9 h
    refine V.iconst (v := 0) d_Ta_hasRoomFor_16 (by decide) ?_
    cases h
    exact V.zret rfl rfl d_Ta_hasRoomFor_17 ⟨rfl, rfl⟩
  · replace h := ite_f hc9 h
    refine V.iconst (v := 1) d_Ta_hasRoomFor_12 (by decide) ?_
    refine V.goto (tgt := 17) d_Ta_hasRoomFor_13 (by decide) ?_
    cases h
    exact V.zret rfl rfl d_Ta_hasRoomFor_17 ⟨rfl, rfl⟩
abbrev m_Ta_addInt : MI := (⟨"ShadeTown$Tape", "addInt", "(I)V"⟩, prog_8_method_3_code, 3, (Option.none : Option Jvm.ClassFile.FieldType))
theorem d_Ta_addInt_0 : decode prog_8_method_3_code 0 = .ok (.bipush 24, 2) := by decide +kernel
theorem d_Ta_addInt_2 : decode prog_8_method_3_code 2 = .ok (.istore_n 2, 1) := by decide +kernel
theorem d_Ta_addInt_3 : decode prog_8_method_3_code 3 = .ok (.iload_n 2, 1) := by decide +kernel
theorem d_Ta_addInt_49 : decode prog_8_method_3_code 49 = .ok (.return_, 1) := by decide +kernel
theorem d_Ta_addInt_7 : decode prog_8_method_3_code 7 = .ok (.aload_n 0, 1) := by decide +kernel
theorem d_Ta_addInt_8 : decode prog_8_method_3_code 8 = .ok (.getfield 15, 3) := by decide +kernel
theorem d_Ta_addInt_11 : decode prog_8_method_3_code 11 = .ok (.sipush 260, 3) := by decide +kernel
theorem d_Ta_addInt_17 : decode prog_8_method_3_code 17 = .ok (.aload_n 0, 1) := by decide +kernel
theorem fl_Ta_11 : FL "ShadeTown$Tape" 11 T_Ta 0 := atG 146 (by decide +kernel) rfl
theorem d_Ta_addInt_18 : decode prog_8_method_3_code 18 = .ok (.getfield 11, 3) := by decide +kernel
theorem d_Ta_addInt_21 : decode prog_8_method_3_code 21 = .ok (.aload_n 0, 1) := by decide +kernel
theorem d_Ta_addInt_22 : decode prog_8_method_3_code 22 = .ok (.getfield 15, 3) := by decide +kernel
theorem d_Ta_addInt_25 : decode prog_8_method_3_code 25 = .ok (.iload_n 1, 1) := by decide +kernel
theorem d_Ta_addInt_26 : decode prog_8_method_3_code 26 = .ok (.iload_n 2, 1) := by decide +kernel
theorem d_Ta_addInt_27 : decode prog_8_method_3_code 27 = .ok (.ishr, 1) := by decide +kernel
theorem d_Ta_addInt_28 : decode prog_8_method_3_code 28 = .ok (.sipush 255, 3) := by decide +kernel
theorem d_Ta_addInt_31 : decode prog_8_method_3_code 31 = .ok (.iand, 1) := by decide +kernel
theorem d_Ta_addInt_32 : decode prog_8_method_3_code 32 = .ok (.iastore, 1) := by decide +kernel
theorem d_Ta_addInt_33 : decode prog_8_method_3_code 33 = .ok (.aload_n 0, 1) := by decide +kernel
theorem d_Ta_addInt_34 : decode prog_8_method_3_code 34 = .ok (.dup, 1) := by decide +kernel
theorem d_Ta_addInt_35 : decode prog_8_method_3_code 35 = .ok (.getfield 15, 3) := by decide +kernel
theorem d_Ta_addInt_38 : decode prog_8_method_3_code 38 = .ok (.iconst 1, 1) := by decide +kernel
theorem d_Ta_addInt_39 : decode prog_8_method_3_code 39 = .ok (.iadd, 1) := by decide +kernel
theorem d_Ta_addInt_40 : decode prog_8_method_3_code 40 = .ok (.putfield 15, 3) := by decide +kernel
theorem d_Ta_addInt_14 : decode prog_8_method_3_code 14 = .ok (.if_icmp .ge 29, 3) := by decide +kernel
theorem d_Ta_addInt_43 : decode prog_8_method_3_code 43 = .ok (.iinc 2 (-8), 3) := by decide +kernel
theorem d_Ta_addInt_46 : decode prog_8_method_3_code 46 = .ok (.goto (-43), 3) := by decide +kernel
theorem d_Ta_addInt_4 : decode prog_8_method_3_code 4 = .ok (.ifCond .lt 45, 3) := by decide +kernel
def B_Ta_addInt_l3 (N : Nat) (a1 : Int32) (rec : Int32 → Mem → Option (Mem)) (x2 : Int32) (σ : Mem) : Option (Mem) :=
  if x2 < 0 then
    (some σ)
  else
    (bnd1 ((
      if 260 ≤ (mI σ 1 1) then
        (some σ)
      else
        (grd (inb (mI σ 1 1) 260) <|
        letv (sI σ 2 ((mI σ 1 1).toNatClampNeg) ((a1 >>> (x2 &&& 31)) &&& 255)) fun σ32 =>
        letv (sI σ32 1 1 ((mI σ32 1 1) + 1)) fun σ40 =>
        some σ40)) : Option (Mem)) fun σ14_ =>
    letv (x2 + (-8)) fun v43 =>
    rec v43 σ14_)
def L_Ta_addInt_l3 (N : Nat) (a1 : Int32) : Nat → Int32 → Mem → Option (Mem)
  | 0, _, _ => none
  | k + 1, x2, σ => B_Ta_addInt_l3 N a1 (L_Ta_addInt_l3 N a1 k) x2 σ
set_option maxHeartbeats 4000000 in
set_option maxRecDepth 20000 in
theorem cL_Ta_addInt_l3 (Z : ZX) {Y : YX} {post : Option Value → Mem → Prop} {N : Nat} {a1 : Int32} {Good : Mem → Prop} (hR : ∀ (σr : Mem), Good σr → post none σr) : ∀ (k : Nat) (x2 : Int32) (σ : Mem) (res : Mem), L_Ta_addInt_l3 N a1 k x2 σ = some res → Good res → V (mkB Z) Y m_Ta_addInt 0 (QP (mkB Z) Y nC 0 0 post) 0 0 nC σ 3 [(0, rf Z 1), (1, .int a1), (2, .int x2)] [] := by
  intro k
  induction k with
  | zero => intro x2 σ res h; cases h
  | succ k ih =>
    intro x2 σ res h hg
    replace h : B_Ta_addInt_l3 N a1 (L_Ta_addInt_l3 N a1 k) x2 σ = some res := h
    unfold B_Ta_addInt_l3 at h
    refine V.iload_n d_Ta_addInt_3 rfl 2 rfl ?_
    refine V.if_lt (tgt := 49) d_Ta_addInt_4 (by decide) (fun hc4 => ?_) (fun hc4 => ?_)
    · replace h := ite_t hc4 h
      cases h
      exact V.vret rfl d_Ta_addInt_49 (hR _ hg)
    · replace h := ite_f hc4 h
      refine V.aload_n d_Ta_addInt_7 rfl 0 rfl ?_
      refine V.getI ok_Ta fl_Ta_15 (by decide) (by decide) ly_1 rfl d_Ta_addInt_8 ?_
      refine V.sipush (v := 260) d_Ta_addInt_11 (by decide) ?_
      obtain ⟨s14, h1, h⟩ := bnd1_e h
      have J14_43 : ∀ (σ14_ : Mem), s14 = σ14_ → V (mkB Z) Y m_Ta_addInt 0 (QP (mkB Z) Y nC 0 0 post) 0 0 nC σ14_ 43 [(0, rf Z 1), (1, .int a1), (2, .int x2)] [] := by
        intro σ14_ he
        rw [he] at h
        obtain ⟨v43, e_v43, h⟩ := letv_e h
        refine V.iinc (v := v43) (lv' := [(2, .int v43), (0, rf Z 1), (1, .int a1)]) d_Ta_addInt_43 2 rfl (by rw [e_v43]; rfl) (by decide) rfl ?_
        refine V.goto (tgt := 3) d_Ta_addInt_46 (by decide) ?_
        exact V.pick [1, 2, 0] rfl (ih _ _ _ h hg)
      replace h := h1
      refine V.icmp_ge (tgt := 43) d_Ta_addInt_14 (by decide) (fun hc14 => ?_) (fun hc14 => ?_)
      · replace h := ite_t hc14 h
        exact V.pick [0, 1, 2] rfl (J14_43 _ (Option.some.inj h).symm)
      · replace h := ite_f hc14 h
        refine V.aload_n d_Ta_addInt_17 rfl 0 rfl ?_
        refine V.getR (r := 2) ok_Ta fl_Ta_11 (by decide) (by decide) ly_1 rfl d_Ta_addInt_18 ?_
        refine V.aload_n d_Ta_addInt_21 rfl 0 rfl ?_
        refine V.getI ok_Ta fl_Ta_15 (by decide) (by decide) ly_1 rfl d_Ta_addInt_22 ?_
        refine V.iload_n d_Ta_addInt_25 rfl 1 rfl ?_
        refine V.iload_n d_Ta_addInt_26 rfl 2 rfl ?_
        refine V.ishr d_Ta_addInt_27 ?_
        refine V.sipush (v := 255) d_Ta_addInt_28 (by decide) ?_
        refine V.iand d_Ta_addInt_31 ?_
        obtain ⟨gq, h⟩ := grd_e h
        obtain ⟨σ32, e_σ32, h⟩ := letv_e h
        refine V.wa (by decide) ly_2 (inb_e gq) rfl d_Ta_addInt_32 e_σ32 ?_
        refine V.aload_n d_Ta_addInt_33 rfl 0 rfl ?_
        refine V.dup d_Ta_addInt_34 rfl ?_
        refine V.getI ok_Ta fl_Ta_15 (by decide) (by decide) ly_1 rfl d_Ta_addInt_35 ?_
        refine V.iconst (v := 1) d_Ta_addInt_38 (by decide) ?_
        refine V.iadd d_Ta_addInt_39 ?_
        obtain ⟨σ40, e_σ40, h⟩ := letv_e h
        refine V.putI ok_Ta fl_Ta_15 (by decide) (by decide) ly_1 rfl rfl rfl rfl d_Ta_addInt_40 (V.mem e_σ40 ?_)
        exact V.pick [0, 1, 2] rfl (J14_43 _ (Option.some.inj h).symm)
def f_Ta_addInt (N : Nat) (σ : Mem) (a1 : Int32) : Option (Mem) :=
  L_Ta_addInt_l3 N a1 N 24 σ
set_option maxHeartbeats 4000000 in
set_option maxRecDepth 20000 in
theorem c_Ta_addInt (Z : ZX) {N : Nat} {σ : Mem} {a1 : Int32} {σ' : Mem} (h : f_Ta_addInt N σ a1 = some σ') : CN Z 0 m_Ta_addInt [rf Z 1, .int a1] σ σ' := by
  refine Ct.of (by decide +kernel) (Nat.le_of_ble_eq_true rfl) (fun Y => ?_)
  show V (mkB Z) Y m_Ta_addInt 0 (QP (mkB Z) Y nC 0 0 (fun v t => v = none ∧ t = σ')) 0 0 nC σ 0 [(0, rf Z 1), (1, .int a1)] []
  unfold f_Ta_addInt at h
  refine V.bipush (v := 24) d_Ta_addInt_0 (by decide) ?_
  refine V.istore_n (lv' := [(2, .int 24), (0, rf Z 1), (1, .int a1)]) d_Ta_addInt_2 rfl (by decide) rfl ?_
  refine V.pick [1, 2, 0] rfl (cL_Ta_addInt_l3 Z (Good := fun z => z = _) (fun r3m he => ?_) N _ _ _ h rfl)
  · cases he
    exact ⟨rfl, rfl⟩
abbrev m_Ta_length : MI := (⟨"ShadeTown$Tape", "length", "()I"⟩, prog_8_method_4_code, 1, (Option.some Jvm.ClassFile.FieldType.int))
theorem d_Ta_length_0 : decode prog_8_method_4_code 0 = .ok (.aload_n 0, 1) := by decide +kernel
theorem d_Ta_length_1 : decode prog_8_method_4_code 1 = .ok (.getfield 15, 3) := by decide +kernel
theorem d_Ta_length_4 : decode prog_8_method_4_code 4 = .ok (.ireturn, 1) := by decide +kernel
def f_Ta_length (σ : Mem) : Option (Int32) :=
  some (mI σ 1 1)
set_option maxHeartbeats 4000000 in
set_option maxRecDepth 20000 in
theorem c_Ta_length (Z : ZX) {σ : Mem} {r : Int32} (h : f_Ta_length σ = some r) : CI Z 0 m_Ta_length [rf Z 1] σ r σ := by
  refine Ct.of (by decide +kernel) (Nat.le_of_ble_eq_true rfl) (fun Y => ?_)
  show V (mkB Z) Y m_Ta_length 0 (QP (mkB Z) Y nC 0 0 (fun v t => v = some (.int r) ∧ t = σ)) 0 0 nC σ 0 [(0, rf Z 1)] []
  unfold f_Ta_length at h
  refine V.aload_n d_Ta_length_0 rfl 0 rfl ?_
  refine V.getI ok_Ta fl_Ta_15 (by decide) (by decide) ly_1 rfl d_Ta_length_1 ?_
  cases h
  exact V.iret rfl d_Ta_length_4 ⟨rfl, rfl⟩
abbrev m_Sh_feed : MI := (⟨"ShadeTown", "feed", "(IIIII)I"⟩, prog_1_method_2_code, 6, (Option.some Jvm.ClassFile.FieldType.int))
theorem d_Sh_feed_0 : decode prog_1_method_2_code 0 = .ok (.aload_n 0, 1) := by decide +kernel
theorem fl_Sh_10 : FL "ShadeTown" 10 T_Sh 0 := atG 419 (by decide +kernel) rfl
theorem d_Sh_feed_1 : decode prog_1_method_2_code 1 = .ok (.getfield 10, 3) := by decide +kernel
theorem d_Sh_feed_4 : decode prog_1_method_2_code 4 = .ok (.bipush 20, 2) := by decide +kernel
theorem d_Sh_feed_6 : decode prog_1_method_2_code 6 = .ok (.invokevirtual 93, 3) := by decide +kernel
theorem k_Ta_hasRoomFor : MOk m_Ta_hasRoomFor 1 ∧ IOk m_Ta_hasRoomFor := ⟨⟨atG 466 (by decide +kernel) rfl, atG 112 (by decide +kernel) rfl, ⟨by decide, by decide⟩, by decide +kernel, by decide⟩, atG 464 (by decide +kernel) rfl, atG 465 (by decide +kernel) rfl⟩
theorem lk_Sh_93 : Cond.methodLink "ShadeTown" 93 ⟨"ShadeTown$Tape", "hasRoomFor", "(I)Z"⟩ ∈ tblG := atG 463 (by decide +kernel) rfl
theorem d_Sh_feed_14 : decode prog_1_method_2_code 14 = .ok (.aload_n 0, 1) := by decide +kernel
theorem d_Sh_feed_15 : decode prog_1_method_2_code 15 = .ok (.getfield 10, 3) := by decide +kernel
theorem d_Sh_feed_18 : decode prog_1_method_2_code 18 = .ok (.iload_n 1, 1) := by decide +kernel
theorem d_Sh_feed_19 : decode prog_1_method_2_code 19 = .ok (.invokevirtual 97, 3) := by decide +kernel
theorem k_Ta_addInt : MOk m_Ta_addInt 1 ∧ IOk m_Ta_addInt := ⟨⟨atG 470 (by decide +kernel) rfl, atG 112 (by decide +kernel) rfl, ⟨by decide, by decide⟩, by decide +kernel, by decide⟩, atG 468 (by decide +kernel) rfl, atG 469 (by decide +kernel) rfl⟩
theorem lk_Sh_97 : Cond.methodLink "ShadeTown" 97 ⟨"ShadeTown$Tape", "addInt", "(I)V"⟩ ∈ tblG := atG 467 (by decide +kernel) rfl
theorem d_Sh_feed_22 : decode prog_1_method_2_code 22 = .ok (.aload_n 0, 1) := by decide +kernel
theorem d_Sh_feed_23 : decode prog_1_method_2_code 23 = .ok (.getfield 10, 3) := by decide +kernel
theorem d_Sh_feed_26 : decode prog_1_method_2_code 26 = .ok (.iload_n 2, 1) := by decide +kernel
theorem d_Sh_feed_27 : decode prog_1_method_2_code 27 = .ok (.invokevirtual 97, 3) := by decide +kernel
theorem d_Sh_feed_30 : decode prog_1_method_2_code 30 = .ok (.aload_n 0, 1) := by decide +kernel
theorem d_Sh_feed_31 : decode prog_1_method_2_code 31 = .ok (.getfield 10, 3) := by decide +kernel
theorem d_Sh_feed_34 : decode prog_1_method_2_code 34 = .ok (.iload_n 3, 1) := by decide +kernel
theorem d_Sh_feed_35 : decode prog_1_method_2_code 35 = .ok (.invokevirtual 97, 3) := by decide +kernel
theorem d_Sh_feed_38 : decode prog_1_method_2_code 38 = .ok (.aload_n 0, 1) := by decide +kernel
theorem d_Sh_feed_39 : decode prog_1_method_2_code 39 = .ok (.getfield 10, 3) := by decide +kernel
theorem d_Sh_feed_42 : decode prog_1_method_2_code 42 = .ok (.iload 4, 2) := by decide +kernel
theorem d_Sh_feed_44 : decode prog_1_method_2_code 44 = .ok (.invokevirtual 97, 3) := by decide +kernel
theorem d_Sh_feed_47 : decode prog_1_method_2_code 47 = .ok (.aload_n 0, 1) := by decide +kernel
theorem d_Sh_feed_48 : decode prog_1_method_2_code 48 = .ok (.getfield 10, 3) := by decide +kernel
theorem d_Sh_feed_51 : decode prog_1_method_2_code 51 = .ok (.iload 5, 2) := by decide +kernel
theorem d_Sh_feed_53 : decode prog_1_method_2_code 53 = .ok (.invokevirtual 97, 3) := by decide +kernel
theorem d_Sh_feed_56 : decode prog_1_method_2_code 56 = .ok (.aload_n 0, 1) := by decide +kernel
theorem d_Sh_feed_57 : decode prog_1_method_2_code 57 = .ok (.getfield 10, 3) := by decide +kernel
theorem d_Sh_feed_60 : decode prog_1_method_2_code 60 = .ok (.invokevirtual 101, 3) := by decide +kernel
theorem k_Ta_length : MOk m_Ta_length 0 ∧ IOk m_Ta_length := ⟨⟨atG 474 (by decide +kernel) rfl, atG 112 (by decide +kernel) rfl, ⟨by decide, by decide⟩, by decide +kernel, by decide⟩, atG 472 (by decide +kernel) rfl, atG 473 (by decide +kernel) rfl⟩
theorem lk_Sh_101 : Cond.methodLink "ShadeTown" 101 ⟨"ShadeTown$Tape", "length", "()I"⟩ ∈ tblG := atG 471 (by decide +kernel) rfl
theorem d_Sh_feed_63 : decode prog_1_method_2_code 63 = .ok (.ireturn, 1) := by decide +kernel
theorem d_Sh_feed_12 : decode prog_1_method_2_code 12 = .ok (.iconst (-1), 1) := by decide +kernel
theorem d_Sh_feed_13 : decode prog_1_method_2_code 13 = .ok (.ireturn, 1) := by decide +kernel
theorem d_Sh_feed_9 : decode prog_1_method_2_code 9 = .ok (.ifCond .ne 5, 3) := by decide +kernel
def f_Sh_feed (N : Nat) (σ : Mem) (a1 : Int32) (a2 : Int32) (a3 : Int32) (a4 : Int32) (a5 : Int32) : Option (Int32 × Mem) :=
  bnd1 (f_Ta_hasRoomFor σ 20) fun r6 =>
  if r6 = 0 then
    (some ((-1), σ))
  else
    (bnd1 (f_Ta_addInt N σ a1) fun σ19 =>
    bnd1 (f_Ta_addInt N σ19 a2) fun σ27 =>
    bnd1 (f_Ta_addInt N σ27 a3) fun σ35 =>
    bnd1 (f_Ta_addInt N σ35 a4) fun σ44 =>
    bnd1 (f_Ta_addInt N σ44 a5) fun σ53 =>
    bnd1 (f_Ta_length σ53) fun r60 =>
    some (r60, σ53))
set_option maxHeartbeats 4000000 in
set_option maxRecDepth 20000 in
theorem c_Sh_feed (Z : ZX) {N : Nat} {σ : Mem} {a1 : Int32} {a2 : Int32} {a3 : Int32} {a4 : Int32} {a5 : Int32} {r : Int32} {σ' : Mem} (h : f_Sh_feed N σ a1 a2 a3 a4 a5 = some (r, σ')) : CI Z 1 m_Sh_feed [rf Z 0, .int a1, .int a2, .int a3, .int a4, .int a5] σ r σ' := by
  refine Ct.of (by decide +kernel) (Nat.le_of_ble_eq_true rfl) (fun Y => ?_)
  show V (mkB Z) Y m_Sh_feed 1 (QP (mkB Z) Y nC 0 0 (fun v t => v = some (.int r) ∧ t = σ')) 0 0 nC σ 0 [(0, rf Z 0), (1, .int a1), (2, .int a2), (3, .int a3), (4, .int a4), (5, .int a5)] []
  unfold f_Sh_feed at h
  refine V.aload_n d_Sh_feed_0 rfl 0 rfl ?_
  refine V.getR (r := 1) ok_Sh fl_Sh_10 (by decide) (by decide) ly_0 rfl d_Sh_feed_1 ?_
  refine V.bipush (v := 20) d_Sh_feed_4 (by decide) ?_
  obtain ⟨r6, h1, h⟩ := bnd1_e h
  refine V.vI (as := [.int 20]) (st := []) (c_Ta_hasRoomFor Z h1) k_Ta_hasRoomFor lk_Sh_93 (by decide) rfl (by decide) ly_1 ok_Ta.1 rfl (Nat.le_of_ble_eq_true rfl) d_Sh_feed_6 ?_
  refine V.if_ne (tgt := 14) d_Sh_feed_9 (by decide) (fun hc9 => ?_) (fun hc9 => ?_)
  · replace h := ite_f hc9 h
    refine V.aload_n d_Sh_feed_14 rfl 0 rfl ?_
    refine V.getR (r := 1) ok_Sh fl_Sh_10 (by decide) (by decide) ly_0 rfl d_Sh_feed_15 ?_
    refine V.iload_n d_Sh_feed_18 rfl 1 rfl ?_
    obtain ⟨σ19, h1, h⟩ := bnd1_e h
    refine V.vN (as := [.int a1]) (st := []) (c_Ta_addInt Z h1) k_Ta_addInt lk_Sh_97 (by decide) rfl (by decide) ly_1 ok_Ta.1 rfl (Nat.le_of_ble_eq_true rfl) d_Sh_feed_19 ?_
    refine V.aload_n d_Sh_feed_22 rfl 0 rfl ?_
    refine V.getR (r := 1) ok_Sh fl_Sh_10 (by decide) (by decide) ly_0 rfl d_Sh_feed_23 ?_
    refine V.iload_n d_Sh_feed_26 rfl 2 rfl ?_
    obtain ⟨σ27, h1, h⟩ := bnd1_e h
    refine V.vN (as := [.int a2]) (st := []) (c_Ta_addInt Z h1) k_Ta_addInt lk_Sh_97 (by decide) rfl (by decide) ly_1 ok_Ta.1 rfl (Nat.le_of_ble_eq_true rfl) d_Sh_feed_27 ?_
    refine V.aload_n d_Sh_feed_30 rfl 0 rfl ?_
    refine V.getR (r := 1) ok_Sh fl_Sh_10 (by decide) (by decide) ly_0 rfl d_Sh_feed_31 ?_
    refine V.iload_n d_Sh_feed_34 rfl 3 rfl ?_
    obtain ⟨σ35, h1, h⟩ := bnd1_e h
    refine V.vN (as := [.int a3]) (st := []) (c_Ta_addInt Z h1) k_Ta_addInt lk_Sh_97 (by decide) rfl (by decide) ly_1 ok_Ta.1 rfl (Nat.le_of_ble_eq_true rfl) d_Sh_feed_35 ?_
    refine V.aload_n d_Sh_feed_38 rfl 0 rfl ?_
    refine V.getR (r := 1) ok_Sh fl_Sh_10 (by decide) (by decide) ly_0 rfl d_Sh_feed_39 ?_
    refine V.iload d_Sh_feed_42 4 rfl ?_
    obtain ⟨σ44, h1, h⟩ := bnd1_e h
    refine V.vN (as := [.int a4]) (st := []) (c_Ta_addInt Z h1) k_Ta_addInt lk_Sh_97 (by decide) rfl (by decide) ly_1 ok_Ta.1 rfl (Nat.le_of_ble_eq_true rfl) d_Sh_feed_44 ?_
    refine V.aload_n d_Sh_feed_47 rfl 0 rfl ?_
    refine V.getR (r := 1) ok_Sh fl_Sh_10 (by decide) (by decide) ly_0 rfl d_Sh_feed_48 ?_
    refine V.iload d_Sh_feed_51 5 rfl ?_
    obtain ⟨σ53, h1, h⟩ := bnd1_e h
    refine V.vN (as := [.int a5]) (st := []) (c_Ta_addInt Z h1) k_Ta_addInt lk_Sh_97 (by decide) rfl (by decide) ly_1 ok_Ta.1 rfl (Nat.le_of_ble_eq_true rfl) d_Sh_feed_53 ?_
    refine V.aload_n d_Sh_feed_56 rfl 0 rfl ?_
    refine V.getR (r := 1) ok_Sh fl_Sh_10 (by decide) (by decide) ly_0 rfl d_Sh_feed_57 ?_
    obtain ⟨r60, h1, h⟩ := bnd1_e h
    refine V.vI (as := []) (st := []) (c_Ta_length Z h1) k_Ta_length lk_Sh_101 (by decide) rfl (by decide) ly_1 ok_Ta.1 rfl (Nat.le_of_ble_eq_true rfl) d_Sh_feed_60 ?_
    cases h
    exact V.iret rfl d_Sh_feed_63 ⟨rfl, rfl⟩
  · replace h := ite_t hc9 h
    refine V.iconst (v := (-1)) d_Sh_feed_12 (by decide) ?_
    cases h
    exact V.iret rfl d_Sh_feed_13 ⟨rfl, rfl⟩
abbrev m_Sh_inTown : MI := (⟨"ShadeTown", "inTown", "(II)Z"⟩, prog_1_method_42_code, 2, (Option.some Jvm.ClassFile.FieldType.boolean))
theorem d_Sh_inTown_0 : decode prog_1_method_42_code 0 = .ok (.iload_n 0, 1) := by decide +kernel
theorem d_Sh_inTown_24 : decode prog_1_method_42_code 24 = .ok (.iconst 0, 1) := by decide +kernel
theorem d_Sh_inTown_25 : decode prog_1_method_42_code 25 = .ok (.ireturn, 1) := by decide +kernel
theorem d_Sh_inTown_4 : decode prog_1_method_42_code 4 = .ok (.iload_n 0, 1) := by decide +kernel
theorem d_Sh_inTown_5 : decode prog_1_method_42_code 5 = .ok (.bipush 12, 2) := by decide +kernel
theorem d_Sh_inTown_10 : decode prog_1_method_42_code 10 = .ok (.iload_n 1, 1) := by decide +kernel
theorem d_Sh_inTown_14 : decode prog_1_method_42_code 14 = .ok (.iload_n 1, 1) := by decide +kernel
theorem d_Sh_inTown_15 : decode prog_1_method_42_code 15 = .ok (.bipush 12, 2) := by decide +kernel
theorem d_Sh_inTown_20 : decode prog_1_method_42_code 20 = .ok (.iconst 1, 1) := by decide +kernel
theorem d_Sh_inTown_21 : decode prog_1_method_42_code 21 = .ok (.goto 4, 3) := by decide +kernel
theorem d_Sh_inTown_17 : decode prog_1_method_42_code 17 = .ok (.if_icmp .ge 7, 3) := by decide +kernel
theorem d_Sh_inTown_11 : decode prog_1_method_42_code 11 = .ok (.ifCond .lt 13, 3) := by decide +kernel
theorem d_Sh_inTown_7 : decode prog_1_method_42_code 7 = .ok (.if_icmp .ge 17, 3) := by decide +kernel
theorem d_Sh_inTown_1 : decode prog_1_method_42_code 1 = .ok (.ifCond .lt 23, 3) := by decide +kernel
def f_Sh_inTown (a0 : Int32) (a1 : Int32) : Option (Int32) :=
  if a0 < 0 then
    (some 0)
  else
    (if 12 ≤ a0 then
      (some 0)
    else
      (if a1 < 0 then
        (some 0)
      else
        (if 12 ≤ a1 then
          (some 0)
        else
          (some 1))))
set_option maxHeartbeats 4000000 in
set_option maxRecDepth 20000 in
theorem c_Sh_inTown (Z : ZX) {σ : Mem} {a0 : Int32} {a1 : Int32} {r : Int32} (h : f_Sh_inTown a0 a1 = some r) : CI Z 0 m_Sh_inTown [.int a0, .int a1] σ r σ := by
  refine Ct.of (by decide +kernel) (Nat.le_of_ble_eq_true rfl) (fun Y => ?_)
  show V (mkB Z) Y m_Sh_inTown 0 (QP (mkB Z) Y nC 0 0 (fun v t => v = some (.int r) ∧ t = σ)) 0 0 nC σ 0 [(0, .int a0), (1, .int a1)] []
  unfold f_Sh_inTown at h
  refine V.iload_n d_Sh_inTown_0 rfl 0 rfl ?_
  refine V.if_lt (tgt := 24) d_Sh_inTown_1 (by decide) (fun hc1 => ?_) (fun hc1 => ?_)
  · replace h := ite_t hc1 h
    refine V.iconst (v := 0) d_Sh_inTown_24 (by decide) ?_
    cases h
    exact V.zret rfl rfl d_Sh_inTown_25 ⟨rfl, rfl⟩
  · replace h := ite_f hc1 h
    refine V.iload_n d_Sh_inTown_4 rfl 0 rfl ?_
    refine V.bipush (v := 12) d_Sh_inTown_5 (by decide) ?_
    refine V.icmp_ge (tgt := 24) d_Sh_inTown_7 (by decide) (fun hc7 => ?_) (fun hc7 => ?_)
    · replace h := ite_t hc7 h
      refine V.iconst (v := 0) d_Sh_inTown_24 (by decide) ?_
      cases h
      exact V.zret rfl rfl d_Sh_inTown_25 ⟨rfl, rfl⟩
    · replace h := ite_f hc7 h
      refine V.iload_n d_Sh_inTown_10 rfl 1 rfl ?_
      refine V.if_lt (tgt := 24) d_Sh_inTown_11 (by decide) (fun hc11 => ?_) (fun hc11 => ?_)
      · replace h := ite_t hc11 h
        refine V.iconst (v := 0) d_Sh_inTown_24 (by decide) ?_
        cases h
        exact V.zret rfl rfl d_Sh_inTown_25 ⟨rfl, rfl⟩
      · replace h := ite_f hc11 h
        refine V.iload_n d_Sh_inTown_14 rfl 1 rfl ?_
        refine V.bipush (v := 12) d_Sh_inTown_15 (by decide) ?_
        refine V.icmp_ge (tgt := 24) d_Sh_inTown_17 (by decide) (fun hc17 => ?_) (fun hc17 => ?_)
        · replace h := ite_t hc17 h
          refine V.iconst (v := 0) d_Sh_inTown_24 (by decide) ?_
          cases h
          exact V.zret rfl rfl d_Sh_inTown_25 ⟨rfl, rfl⟩
        · replace h := ite_f hc17 h
          refine V.iconst (v := 1) d_Sh_inTown_20 (by decide) ?_
          refine V.goto (tgt := 25) d_Sh_inTown_21 (by decide) ?_
          cases h
          exact V.zret rfl rfl d_Sh_inTown_25 ⟨rfl, rfl⟩
abbrev m_Sh_isOwner : MI := (⟨"ShadeTown", "isOwner", "(I)Z"⟩, prog_1_method_45_code, 1, (Option.some Jvm.ClassFile.FieldType.boolean))
theorem d_Sh_isOwner_0 : decode prog_1_method_45_code 0 = .ok (.iload_n 0, 1) := by decide +kernel
theorem d_Sh_isOwner_14 : decode prog_1_method_45_code 14 = .ok (.iconst 0, 1) := by decide +kernel
theorem d_Sh_isOwner_15 : decode prog_1_method_45_code 15 = .ok (.ireturn, 1) := by decide +kernel
theorem d_Sh_isOwner_4 : decode prog_1_method_45_code 4 = .ok (.iload_n 0, 1) := by decide +kernel
theorem d_Sh_isOwner_5 : decode prog_1_method_45_code 5 = .ok (.bipush 6, 2) := by decide +kernel
theorem d_Sh_isOwner_10 : decode prog_1_method_45_code 10 = .ok (.iconst 1, 1) := by decide +kernel
theorem d_Sh_isOwner_11 : decode prog_1_method_45_code 11 = .ok (.goto 4, 3) := by decide +kernel
theorem d_Sh_isOwner_7 : decode prog_1_method_45_code 7 = .ok (.if_icmp .ge 7, 3) := by decide +kernel
theorem d_Sh_isOwner_1 : decode prog_1_method_45_code 1 = .ok (.ifCond .lt 13, 3) := by decide +kernel
def f_Sh_isOwner (a0 : Int32) : Option (Int32) :=
  if a0 < 0 then
    (some 0)
  else
    (if 6 ≤ a0 then
      (some 0)
    else
      (some 1))
set_option maxHeartbeats 4000000 in
set_option maxRecDepth 20000 in
theorem c_Sh_isOwner (Z : ZX) {σ : Mem} {a0 : Int32} {r : Int32} (h : f_Sh_isOwner a0 = some r) : CI Z 0 m_Sh_isOwner [.int a0] σ r σ := by
  refine Ct.of (by decide +kernel) (Nat.le_of_ble_eq_true rfl) (fun Y => ?_)
  show V (mkB Z) Y m_Sh_isOwner 0 (QP (mkB Z) Y nC 0 0 (fun v t => v = some (.int r) ∧ t = σ)) 0 0 nC σ 0 [(0, .int a0)] []
  unfold f_Sh_isOwner at h
  refine V.iload_n d_Sh_isOwner_0 rfl 0 rfl ?_
  refine V.if_lt (tgt := 14) d_Sh_isOwner_1 (by decide) (fun hc1 => ?_) (fun hc1 => ?_)
  · replace h := ite_t hc1 h
    refine V.iconst (v := 0) d_Sh_isOwner_14 (by decide) ?_
    cases h
    exact V.zret rfl rfl d_Sh_isOwner_15 ⟨rfl, rfl⟩
  · replace h := ite_f hc1 h
    refine V.iload_n d_Sh_isOwner_4 rfl 0 rfl ?_
    refine V.bipush (v := 6) d_Sh_isOwner_5 (by decide) ?_
    refine V.icmp_ge (tgt := 14) d_Sh_isOwner_7 (by decide) (fun hc7 => ?_) (fun hc7 => ?_)
    · replace h := ite_t hc7 h
      refine V.iconst (v := 0) d_Sh_isOwner_14 (by decide) ?_
      cases h
      exact V.zret rfl rfl d_Sh_isOwner_15 ⟨rfl, rfl⟩
    · replace h := ite_f hc7 h
      refine V.iconst (v := 1) d_Sh_isOwner_10 (by decide) ?_
      refine V.goto (tgt := 15) d_Sh_isOwner_11 (by decide) ?_
      cases h
      exact V.zret rfl rfl d_Sh_isOwner_15 ⟨rfl, rfl⟩
abbrev m_To_isFull : MI := (⟨"ShadeTown$Town", "isFull", "()Z"⟩, prog_9_method_3_code, 1, (Option.some Jvm.ClassFile.FieldType.boolean))
theorem d_To_isFull_0 : decode prog_9_method_3_code 0 = .ok (.aload_n 0, 1) := by decide +kernel
theorem fl_To_30 : FL "ShadeTown$Town" 30 T_To 6 := atG 234 (by decide +kernel) rfl
theorem d_To_isFull_1 : decode prog_9_method_3_code 1 = .ok (.getfield 30, 3) := by decide +kernel
theorem d_To_isFull_4 : decode prog_9_method_3_code 4 = .ok (.bipush 16, 2) := by decide +kernel
theorem d_To_isFull_13 : decode prog_9_method_3_code 13 = .ok (.iconst 0, 1) := by decide +kernel
theorem d_To_isFull_14 : decode prog_9_method_3_code 14 = .ok (.ireturn, 1) := by decide +kernel
theorem d_To_isFull_9 : decode prog_9_method_3_code 9 = .ok (.iconst 1, 1) := by decide +kernel
theorem d_To_isFull_10 : decode prog_9_method_3_code 10 = .ok (.goto 4, 3) := by decide +kernel
theorem d_To_isFull_6 : decode prog_9_method_3_code 6 = .ok (.if_icmp .lt 7, 3) := by decide +kernel
def f_To_isFull (σ : Mem) : Option (Int32) :=
  if (mI σ 19 6) < 16 then
    (some 0)
  else
    (some 1)
set_option maxHeartbeats 4000000 in
set_option maxRecDepth 20000 in
theorem c_To_isFull (Z : ZX) {σ : Mem} {r : Int32} (h : f_To_isFull σ = some r) : CI Z 0 m_To_isFull [rf Z 19] σ r σ := by
  refine Ct.of (by decide +kernel) (Nat.le_of_ble_eq_true rfl) (fun Y => ?_)
  show V (mkB Z) Y m_To_isFull 0 (QP (mkB Z) Y nC 0 0 (fun v t => v = some (.int r) ∧ t = σ)) 0 0 nC σ 0 [(0, rf Z 19)] []
  unfold f_To_isFull at h
  refine V.aload_n d_To_isFull_0 rfl 0 rfl ?_
  refine V.getI ok_To fl_To_30 (by decide) (by decide) ly_19 rfl d_To_isFull_1 ?_
  refine V.bipush (v := 16) d_To_isFull_4 (by decide) ?_
  refine V.icmp_lt (tgt := 13) d_To_isFull_6 (by decide) (fun hc6 => ?_) (fun hc6 => ?_)
  · replace h := ite_t hc6 h
    refine V.iconst (v := 0) d_To_isFull_13 (by decide) ?_
    cases h
    exact V.zret rfl rfl d_To_isFull_14 ⟨rfl, rfl⟩
  · replace h := ite_f hc6 h
    refine V.iconst (v := 1) d_To_isFull_9 (by decide) ?_
    refine V.goto (tgt := 14) d_To_isFull_10 (by decide) ?_
    cases h
    exact V.zret rfl rfl d_To_isFull_14 ⟨rfl, rfl⟩
abbrev m_To_isCaster : MI := (⟨"ShadeTown$Town", "isCaster", "(I)Z"⟩, prog_9_method_4_code, 2, (Option.some Jvm.ClassFile.FieldType.boolean))
theorem d_To_isCaster_0 : decode prog_9_method_4_code 0 = .ok (.iload_n 1, 1) := by decide +kernel
theorem d_To_isCaster_16 : decode prog_9_method_4_code 16 = .ok (.iconst 0, 1) := by decide +kernel
theorem d_To_isCaster_17 : decode prog_9_method_4_code 17 = .ok (.ireturn, 1) := by decide +kernel
theorem d_To_isCaster_4 : decode prog_9_method_4_code 4 = .ok (.iload_n 1, 1) := by decide +kernel
theorem d_To_isCaster_5 : decode prog_9_method_4_code 5 = .ok (.aload_n 0, 1) := by decide +kernel
theorem d_To_isCaster_6 : decode prog_9_method_4_code 6 = .ok (.getfield 30, 3) := by decide +kernel
theorem d_To_isCaster_12 : decode prog_9_method_4_code 12 = .ok (.iconst 1, 1) := by decide +kernel
theorem d_To_isCaster_13 : decode prog_9_method_4_code 13 = .ok (.goto 4, 3) := by decide +kernel
theorem d_To_isCaster_9 : decode prog_9_method_4_code 9 = .ok (.if_icmp .ge 7, 3) := by decide +kernel
theorem d_To_isCaster_1 : decode prog_9_method_4_code 1 = .ok (.ifCond .lt 15, 3) := by decide +kernel
def f_To_isCaster (σ : Mem) (a1 : Int32) : Option (Int32) :=
  if a1 < 0 then
    (some 0)
  else
    (if (mI σ 19 6) ≤ a1 then
      (some 0)
    else
      (some 1))
set_option maxHeartbeats 4000000 in
set_option maxRecDepth 20000 in
theorem c_To_isCaster (Z : ZX) {σ : Mem} {a1 : Int32} {r : Int32} (h : f_To_isCaster σ a1 = some r) : CI Z 0 m_To_isCaster [rf Z 19, .int a1] σ r σ := by
  refine Ct.of (by decide +kernel) (Nat.le_of_ble_eq_true rfl) (fun Y => ?_)
  show V (mkB Z) Y m_To_isCaster 0 (QP (mkB Z) Y nC 0 0 (fun v t => v = some (.int r) ∧ t = σ)) 0 0 nC σ 0 [(0, rf Z 19), (1, .int a1)] []
  unfold f_To_isCaster at h
  refine V.iload_n d_To_isCaster_0 rfl 1 rfl ?_
  refine V.if_lt (tgt := 16) d_To_isCaster_1 (by decide) (fun hc1 => ?_) (fun hc1 => ?_)
  · replace h := ite_t hc1 h
    refine V.iconst (v := 0) d_To_isCaster_16 (by decide) ?_
    cases h
    exact V.zret rfl rfl d_To_isCaster_17 ⟨rfl, rfl⟩
  · replace h := ite_f hc1 h
    refine V.iload_n d_To_isCaster_4 rfl 1 rfl ?_
    refine V.aload_n d_To_isCaster_5 rfl 0 rfl ?_
    refine V.getI ok_To fl_To_30 (by decide) (by decide) ly_19 rfl d_To_isCaster_6 ?_
    refine V.icmp_ge (tgt := 16) d_To_isCaster_9 (by decide) (fun hc9 => ?_) (fun hc9 => ?_)
    · replace h := ite_t hc9 h
      refine V.iconst (v := 0) d_To_isCaster_16 (by decide) ?_
      cases h
      exact V.zret rfl rfl d_To_isCaster_17 ⟨rfl, rfl⟩
    · replace h := ite_f hc9 h
      refine V.iconst (v := 1) d_To_isCaster_12 (by decide) ?_
      refine V.goto (tgt := 17) d_To_isCaster_13 (by decide) ?_
      cases h
      exact V.zret rfl rfl d_To_isCaster_17 ⟨rfl, rfl⟩
abbrev m_To_isStanding : MI := (⟨"ShadeTown$Town", "isStanding", "(I)Z"⟩, prog_9_method_5_code, 2, (Option.some Jvm.ClassFile.FieldType.boolean))
theorem d_To_isStanding_0 : decode prog_9_method_5_code 0 = .ok (.aload_n 0, 1) := by decide +kernel
theorem d_To_isStanding_1 : decode prog_9_method_5_code 1 = .ok (.iload_n 1, 1) := by decide +kernel
theorem d_To_isStanding_2 : decode prog_9_method_5_code 2 = .ok (.invokevirtual 49, 3) := by decide +kernel
theorem k_To_isCaster : MOk m_To_isCaster 1 ∧ IOk m_To_isCaster := ⟨⟨atG 717 (by decide +kernel) rfl, atG 115 (by decide +kernel) rfl, ⟨by decide, by decide⟩, by decide +kernel, by decide⟩, atG 715 (by decide +kernel) rfl, atG 716 (by decide +kernel) rfl⟩
theorem lk_To_49 : Cond.methodLink "ShadeTown$Town" 49 ⟨"ShadeTown$Town", "isCaster", "(I)Z"⟩ ∈ tblG := atG 714 (by decide +kernel) rfl
theorem d_To_isStanding_24 : decode prog_9_method_5_code 24 = .ok (.iconst 0, 1) := by decide +kernel
theorem d_To_isStanding_25 : decode prog_9_method_5_code 25 = .ok (.ireturn, 1) := by decide +kernel
theorem d_To_isStanding_8 : decode prog_9_method_5_code 8 = .ok (.aload_n 0, 1) := by decide +kernel
theorem fl_To_34 : FL "ShadeTown$Town" 34 T_To 7 := atG 237 (by decide +kernel) rfl
theorem d_To_isStanding_9 : decode prog_9_method_5_code 9 = .ok (.getfield 34, 3) := by decide +kernel
theorem d_To_isStanding_12 : decode prog_9_method_5_code 12 = .ok (.iload_n 1, 1) := by decide +kernel
theorem d_To_isStanding_13 : decode prog_9_method_5_code 13 = .ok (.ishr, 1) := by decide +kernel
theorem d_To_isStanding_14 : decode prog_9_method_5_code 14 = .ok (.iconst 1, 1) := by decide +kernel
theorem d_To_isStanding_15 : decode prog_9_method_5_code 15 = .ok (.iand, 1) := by decide +kernel
theorem d_To_isStanding_16 : decode prog_9_method_5_code 16 = .ok (.iconst 1, 1) := by decide +kernel
theorem d_To_isStanding_20 : decode prog_9_method_5_code 20 = .ok (.iconst 1, 1) := by decide +kernel
theorem d_To_isStanding_21 : decode prog_9_method_5_code 21 = .ok (.goto 4, 3) := by decide +kernel
theorem d_To_isStanding_17 : decode prog_9_method_5_code 17 = .ok (.if_icmp .ne 7, 3) := by decide +kernel
theorem d_To_isStanding_5 : decode prog_9_method_5_code 5 = .ok (.ifCond .eq 19, 3) := by decide +kernel
def f_To_isStanding (σ : Mem) (a1 : Int32) : Option (Int32) :=
  bnd1 (f_To_isCaster σ a1) fun r2 =>
  if r2 = 0 then
    (some 0)
  else
    (if ((mI σ 19 7) >>> (a1 &&& 31)) &&& 1 = 1 then
      (some 1)
    else
      (some 0))
set_option maxHeartbeats 4000000 in
set_option maxRecDepth 20000 in
theorem c_To_isStanding (Z : ZX) {σ : Mem} {a1 : Int32} {r : Int32} (h : f_To_isStanding σ a1 = some r) : CI Z 1 m_To_isStanding [rf Z 19, .int a1] σ r σ := by
  refine Ct.of (by decide +kernel) (Nat.le_of_ble_eq_true rfl) (fun Y => ?_)
  show V (mkB Z) Y m_To_isStanding 1 (QP (mkB Z) Y nC 0 0 (fun v t => v = some (.int r) ∧ t = σ)) 0 0 nC σ 0 [(0, rf Z 19), (1, .int a1)] []
  unfold f_To_isStanding at h
  refine V.aload_n d_To_isStanding_0 rfl 0 rfl ?_
  refine V.iload_n d_To_isStanding_1 rfl 1 rfl ?_
  obtain ⟨r2, h1, h⟩ := bnd1_e h
  refine V.vI (as := [.int a1]) (st := []) (c_To_isCaster Z h1) k_To_isCaster lk_To_49 (by decide) rfl (by decide) ly_19 ok_To.1 rfl (Nat.le_of_ble_eq_true rfl) d_To_isStanding_2 ?_
  refine V.if_eq (tgt := 24) d_To_isStanding_5 (by decide) (fun hc5 => ?_) (fun hc5 => ?_)
  · replace h := ite_t hc5 h
    refine V.iconst (v := 0) d_To_isStanding_24 (by decide) ?_
    cases h
    exact V.zret rfl rfl d_To_isStanding_25 ⟨rfl, rfl⟩
  · replace h := ite_f hc5 h
    refine V.aload_n d_To_isStanding_8 rfl 0 rfl ?_
    refine V.getI ok_To fl_To_34 (by decide) (by decide) ly_19 rfl d_To_isStanding_9 ?_
    refine V.iload_n d_To_isStanding_12 rfl 1 rfl ?_
    refine V.ishr d_To_isStanding_13 ?_
    refine V.iconst (v := 1) d_To_isStanding_14 (by decide) ?_
    refine V.iand d_To_isStanding_15 ?_
    refine V.iconst (v := 1) d_To_isStanding_16 (by decide) ?_
    refine V.icmp_ne (tgt := 24) d_To_isStanding_17 (by decide) (fun hc17 => ?_) (fun hc17 => ?_)
    · replace h := ite_f hc17 h
      refine V.iconst (v := 0) d_To_isStanding_24 (by decide) ?_
      cases h
      exact V.zret rfl rfl d_To_isStanding_25 ⟨rfl, rfl⟩
    · replace h := ite_t hc17 h
      refine V.iconst (v := 1) d_To_isStanding_20 (by decide) ?_
      refine V.goto (tgt := 25) d_To_isStanding_21 (by decide) ?_
      cases h
      exact V.zret rfl rfl d_To_isStanding_25 ⟨rfl, rfl⟩
abbrev m_To_isStandingOf : MI := (⟨"ShadeTown$Town", "isStandingOf", "(II)Z"⟩, prog_9_method_6_code, 3, (Option.some Jvm.ClassFile.FieldType.boolean))
theorem d_To_isStandingOf_0 : decode prog_9_method_6_code 0 = .ok (.aload_n 0, 1) := by decide +kernel
theorem d_To_isStandingOf_1 : decode prog_9_method_6_code 1 = .ok (.iload_n 1, 1) := by decide +kernel
theorem d_To_isStandingOf_2 : decode prog_9_method_6_code 2 = .ok (.invokevirtual 53, 3) := by decide +kernel
theorem k_To_isStanding : MOk m_To_isStanding 1 ∧ IOk m_To_isStanding := ⟨⟨atG 713 (by decide +kernel) rfl, atG 115 (by decide +kernel) rfl, ⟨by decide, by decide⟩, by decide +kernel, by decide⟩, atG 711 (by decide +kernel) rfl, atG 712 (by decide +kernel) rfl⟩
theorem lk_To_53 : Cond.methodLink "ShadeTown$Town" 53 ⟨"ShadeTown$Town", "isStanding", "(I)Z"⟩ ∈ tblG := atG 710 (by decide +kernel) rfl
theorem d_To_isStandingOf_22 : decode prog_9_method_6_code 22 = .ok (.iconst 0, 1) := by decide +kernel
theorem d_To_isStandingOf_23 : decode prog_9_method_6_code 23 = .ok (.ireturn, 1) := by decide +kernel
theorem d_To_isStandingOf_8 : decode prog_9_method_6_code 8 = .ok (.aload_n 0, 1) := by decide +kernel
theorem fl_To_11 : FL "ShadeTown$Town" 11 T_To 0 := atG 216 (by decide +kernel) rfl
theorem d_To_isStandingOf_9 : decode prog_9_method_6_code 9 = .ok (.getfield 11, 3) := by decide +kernel
theorem d_To_isStandingOf_12 : decode prog_9_method_6_code 12 = .ok (.iload_n 1, 1) := by decide +kernel
theorem d_To_isStandingOf_13 : decode prog_9_method_6_code 13 = .ok (.iaload, 1) := by decide +kernel
theorem d_To_isStandingOf_14 : decode prog_9_method_6_code 14 = .ok (.iload_n 2, 1) := by decide +kernel
theorem d_To_isStandingOf_18 : decode prog_9_method_6_code 18 = .ok (.iconst 1, 1) := by decide +kernel
theorem d_To_isStandingOf_19 : decode prog_9_method_6_code 19 = .ok (.goto 4, 3) := by decide +kernel
theorem d_To_isStandingOf_15 : decode prog_9_method_6_code 15 = .ok (.if_icmp .ne 7, 3) := by decide +kernel
theorem d_To_isStandingOf_5 : decode prog_9_method_6_code 5 = .ok (.ifCond .eq 17, 3) := by decide +kernel
def f_To_isStandingOf (σ : Mem) (a1 : Int32) (a2 : Int32) : Option (Int32) :=
  bnd1 (f_To_isStanding σ a1) fun r2 =>
  if r2 = 0 then
    (some 0)
  else
    (grd (inb a1 17) <|
    if (mI σ 20 (a1.toNatClampNeg)) = a2 then
      (some 1)
    else
      (some 0))
set_option maxHeartbeats 4000000 in
set_option maxRecDepth 20000 in
theorem c_To_isStandingOf (Z : ZX) {σ : Mem} {a1 : Int32} {a2 : Int32} {r : Int32} (h : f_To_isStandingOf σ a1 a2 = some r) : CI Z 2 m_To_isStandingOf [rf Z 19, .int a1, .int a2] σ r σ := by
  refine Ct.of (by decide +kernel) (Nat.le_of_ble_eq_true rfl) (fun Y => ?_)
  show V (mkB Z) Y m_To_isStandingOf 2 (QP (mkB Z) Y nC 0 0 (fun v t => v = some (.int r) ∧ t = σ)) 0 0 nC σ 0 [(0, rf Z 19), (1, .int a1), (2, .int a2)] []
  unfold f_To_isStandingOf at h
  refine V.aload_n d_To_isStandingOf_0 rfl 0 rfl ?_
  refine V.iload_n d_To_isStandingOf_1 rfl 1 rfl ?_
  obtain ⟨r2, h1, h⟩ := bnd1_e h
  refine V.vI (as := [.int a1]) (st := []) (c_To_isStanding Z h1) k_To_isStanding lk_To_53 (by decide) rfl (by decide) ly_19 ok_To.1 rfl (Nat.le_of_ble_eq_true rfl) d_To_isStandingOf_2 ?_
  refine V.if_eq (tgt := 22) d_To_isStandingOf_5 (by decide) (fun hc5 => ?_) (fun hc5 => ?_)
  · replace h := ite_t hc5 h
    refine V.iconst (v := 0) d_To_isStandingOf_22 (by decide) ?_
    cases h
    exact V.zret rfl rfl d_To_isStandingOf_23 ⟨rfl, rfl⟩
  · replace h := ite_f hc5 h
    refine V.aload_n d_To_isStandingOf_8 rfl 0 rfl ?_
    refine V.getR (r := 20) ok_To fl_To_11 (by decide) (by decide) ly_19 rfl d_To_isStandingOf_9 ?_
    refine V.iload_n d_To_isStandingOf_12 rfl 1 rfl ?_
    obtain ⟨gq, h⟩ := grd_e h
    refine V.ra (by decide) ly_20 (inb_e gq) rfl d_To_isStandingOf_13 ?_
    refine V.iload_n d_To_isStandingOf_14 rfl 2 rfl ?_
    refine V.icmp_ne (tgt := 22) d_To_isStandingOf_15 (by decide) (fun hc15 => ?_) (fun hc15 => ?_)
    · replace h := ite_f hc15 h
      refine V.iconst (v := 0) d_To_isStandingOf_22 (by decide) ?_
      cases h
      exact V.zret rfl rfl d_To_isStandingOf_23 ⟨rfl, rfl⟩
    · replace h := ite_t hc15 h
      refine V.iconst (v := 1) d_To_isStandingOf_18 (by decide) ?_
      refine V.goto (tgt := 23) d_To_isStandingOf_19 (by decide) ?_
      cases h
      exact V.zret rfl rfl d_To_isStandingOf_23 ⟨rfl, rfl⟩
abbrev m_To_houseOn : MI := (⟨"ShadeTown$Town", "houseOn", "(I)I"⟩, prog_9_method_7_code, 3, (Option.some Jvm.ClassFile.FieldType.int))
theorem d_To_houseOn_0 : decode prog_9_method_7_code 0 = .ok (.iconst 0, 1) := by decide +kernel
theorem d_To_houseOn_1 : decode prog_9_method_7_code 1 = .ok (.istore_n 2, 1) := by decide +kernel
theorem d_To_houseOn_2 : decode prog_9_method_7_code 2 = .ok (.iload_n 2, 1) := by decide +kernel
theorem d_To_houseOn_3 : decode prog_9_method_7_code 3 = .ok (.aload_n 0, 1) := by decide +kernel
theorem d_To_houseOn_4 : decode prog_9_method_7_code 4 = .ok (.getfield 30, 3) := by decide +kernel
theorem d_To_houseOn_10 : decode prog_9_method_7_code 10 = .ok (.aload_n 0, 1) := by decide +kernel
theorem fl_To_15 : FL "ShadeTown$Town" 15 T_To 1 := atG 219 (by decide +kernel) rfl
theorem d_To_houseOn_11 : decode prog_9_method_7_code 11 = .ok (.getfield 15, 3) := by decide +kernel
theorem d_To_houseOn_14 : decode prog_9_method_7_code 14 = .ok (.iload_n 2, 1) := by decide +kernel
theorem d_To_houseOn_15 : decode prog_9_method_7_code 15 = .ok (.iaload, 1) := by decide +kernel
theorem d_To_houseOn_16 : decode prog_9_method_7_code 16 = .ok (.iload_n 1, 1) := by decide +kernel
theorem d_To_houseOn_20 : decode prog_9_method_7_code 20 = .ok (.aload_n 0, 1) := by decide +kernel
theorem d_To_houseOn_21 : decode prog_9_method_7_code 21 = .ok (.iload_n 2, 1) := by decide +kernel
theorem d_To_houseOn_22 : decode prog_9_method_7_code 22 = .ok (.iconst 0, 1) := by decide +kernel
theorem d_To_houseOn_23 : decode prog_9_method_7_code 23 = .ok (.invokevirtual 56, 3) := by decide +kernel
theorem k_To_isStandingOf : MOk m_To_isStandingOf 2 ∧ IOk m_To_isStandingOf := ⟨⟨atG 709 (by decide +kernel) rfl, atG 115 (by decide +kernel) rfl, ⟨by decide, by decide⟩, by decide +kernel, by decide⟩, atG 707 (by decide +kernel) rfl, atG 708 (by decide +kernel) rfl⟩
theorem lk_To_56 : Cond.methodLink "ShadeTown$Town" 56 ⟨"ShadeTown$Town", "isStandingOf", "(II)Z"⟩ ∈ tblG := atG 706 (by decide +kernel) rfl
theorem d_To_houseOn_26 : decode prog_9_method_7_code 26 = .ok (.ifCond .eq 5, 3) := by decide +kernel
theorem d_To_houseOn_17 : decode prog_9_method_7_code 17 = .ok (.if_icmp .ne 14, 3) := by decide +kernel
theorem d_To_houseOn_7 : decode prog_9_method_7_code 7 = .ok (.if_icmp .ge 30, 3) := by decide +kernel
theorem d_To_houseOn_37 : decode prog_9_method_7_code 37 = .ok (.iconst (-1), 1) := by decide +kernel
theorem d_To_houseOn_38 : decode prog_9_method_7_code 38 = .ok (.ireturn, 1) := by decide +kernel
theorem d_To_houseOn_31 : decode prog_9_method_7_code 31 = .ok (.iinc 2 1, 3) := by decide +kernel
theorem d_To_houseOn_34 : decode prog_9_method_7_code 34 = .ok (.goto (-32), 3) := by decide +kernel
theorem d_To_houseOn_29 : decode prog_9_method_7_code 29 = .ok (.iload_n 2, 1) := by decide +kernel
theorem d_To_houseOn_30 : decode prog_9_method_7_code 30 = .ok (.ireturn, 1) := by decide +kernel
def B_To_houseOn_l2 (N : Nat) (a1 : Int32) (σ : Mem) (rec : Int32 → Option (Int32)) (x2 : Int32) : Option (Int32) :=
  bnd1 ((
    if (mI σ 19 6) ≤ x2 then
      (some 0)
    else
      (grd (inb x2 17) <|
      if (mI σ 21 (x2.toNatClampNeg)) = a1 then
        (bnd1 (f_To_isStandingOf σ x2 0) fun r23 =>
        if r23 = 0 then
          (some 1)
        else
          (some 2))
      else
        (some 1))) : Option (Nat)) fun t7 =>
  if t7 = 0 then
    (some (-1))
  else
  if t7 = 1 then
    (letv (x2 + 1) fun v31 =>
    rec v31)
  else
  (some x2)
def L_To_houseOn_l2 (N : Nat) (a1 : Int32) (σ : Mem) : Nat → Int32 → Option (Int32)
  | 0, _ => none
  | k + 1, x2 => B_To_houseOn_l2 N a1 σ (L_To_houseOn_l2 N a1 σ k) x2
set_option maxHeartbeats 4000000 in
set_option maxRecDepth 20000 in
theorem cL_To_houseOn_l2 (Z : ZX) {Y : YX} {post : Option Value → Mem → Prop} {N : Nat} {a1 : Int32} {σ : Mem} {Good : Int32 → Prop} (hR : ∀ (v : Int32), Good v → post (some (.int v)) σ) : ∀ (k : Nat) (x2 : Int32) (res : Int32), L_To_houseOn_l2 N a1 σ k x2 = some res → Good res → V (mkB Z) Y m_To_houseOn 3 (QP (mkB Z) Y nC 0 0 post) 0 0 nC σ 2 [(0, rf Z 19), (1, .int a1), (2, .int x2)] [] := by
  intro k
  induction k with
  | zero => intro x2 res h; cases h
  | succ k ih =>
    intro x2 res h hg
    replace h : B_To_houseOn_l2 N a1 σ (L_To_houseOn_l2 N a1 σ k) x2 = some res := h
    unfold B_To_houseOn_l2 at h
    refine V.iload_n d_To_houseOn_2 rfl 2 rfl ?_
    refine V.aload_n d_To_houseOn_3 rfl 0 rfl ?_
    refine V.getI ok_To fl_To_30 (by decide) (by decide) ly_19 rfl d_To_houseOn_4 ?_
    obtain ⟨s7, h1, h⟩ := bnd1_e h
    have J7_37 : s7 = 0 → V (mkB Z) Y m_To_houseOn 3 (QP (mkB Z) Y nC 0 0 post) 0 0 nC σ 37 [] [] := by
      intro he
      rw [he] at h
      replace h := ite_t rfl h
      refine V.iconst (v := (-1)) d_To_houseOn_37 (by decide) ?_
      cases h
      exact V.iret rfl d_To_houseOn_38 (hR _ hg)
    have J7_31 : s7 = 1 → V (mkB Z) Y m_To_houseOn 3 (QP (mkB Z) Y nC 0 0 post) 0 0 nC σ 31 [(0, rf Z 19), (1, .int a1), (2, .int x2)] [] := by
      intro he
      rw [he] at h
      replace h := ite_f (by decide) h
      replace h := ite_t rfl h
      obtain ⟨v31, e_v31, h⟩ := letv_e h
      refine V.iinc (v := v31) (lv' := [(2, .int v31), (0, rf Z 19), (1, .int a1)]) d_To_houseOn_31 2 rfl (by rw [e_v31]; rfl) (by decide) rfl ?_
      refine V.goto (tgt := 2) d_To_houseOn_34 (by decide) ?_
      exact V.pick [1, 2, 0] rfl (ih _ _ h hg)
    have J7_29 : s7 = 2 → V (mkB Z) Y m_To_houseOn 3 (QP (mkB Z) Y nC 0 0 post) 0 0 nC σ 29 [(2, .int x2)] [] := by
      intro he
      rw [he] at h
      replace h := ite_f (by decide) h
      replace h := ite_f (by decide) h
      refine V.iload_n d_To_houseOn_29 rfl 0 rfl ?_
      cases h
      exact V.iret rfl d_To_houseOn_30 (hR _ hg)
    replace h := h1
    refine V.icmp_ge (tgt := 37) d_To_houseOn_7 (by decide) (fun hc7 => ?_) (fun hc7 => ?_)
    · replace h := ite_t hc7 h
      exact V.pick [] rfl (J7_37 (Option.some.inj h).symm)
    · replace h := ite_f hc7 h
      refine V.aload_n d_To_houseOn_10 rfl 0 rfl ?_
      refine V.getR (r := 21) ok_To fl_To_15 (by decide) (by decide) ly_19 rfl d_To_houseOn_11 ?_
      refine V.iload_n d_To_houseOn_14 rfl 2 rfl ?_
      obtain ⟨gq, h⟩ := grd_e h
      refine V.ra (by decide) ly_21 (inb_e gq) rfl d_To_houseOn_15 ?_
      refine V.iload_n d_To_houseOn_16 rfl 1 rfl ?_
      refine V.icmp_ne (tgt := 31) d_To_houseOn_17 (by decide) (fun hc17 => ?_) (fun hc17 => ?_)
      · replace h := ite_f hc17 h
        exact V.pick [0, 1, 2] rfl (J7_31 (Option.some.inj h).symm)
      · replace h := ite_t hc17 h
        refine V.aload_n d_To_houseOn_20 rfl 0 rfl ?_
        refine V.iload_n d_To_houseOn_21 rfl 2 rfl ?_
        refine V.iconst (v := 0) d_To_houseOn_22 (by decide) ?_
        obtain ⟨r23, h1, h⟩ := bnd1_e h
        refine V.vI (as := [.int x2, .int 0]) (st := []) (c_To_isStandingOf Z h1) k_To_isStandingOf lk_To_56 (by decide) rfl (by decide) ly_19 ok_To.1 rfl (Nat.le_of_ble_eq_true rfl) d_To_houseOn_23 ?_
        refine V.if_eq (tgt := 31) d_To_houseOn_26 (by decide) (fun hc26 => ?_) (fun hc26 => ?_)
        · replace h := ite_t hc26 h
          exact V.pick [0, 1, 2] rfl (J7_31 (Option.some.inj h).symm)
        · replace h := ite_f hc26 h
          exact V.pick [2] rfl (J7_29 (Option.some.inj h).symm)
def f_To_houseOn (N : Nat) (σ : Mem) (a1 : Int32) : Option (Int32) :=
  L_To_houseOn_l2 N a1 σ N 0
set_option maxHeartbeats 4000000 in
set_option maxRecDepth 20000 in
theorem c_To_houseOn (Z : ZX) {N : Nat} {σ : Mem} {a1 : Int32} {r : Int32} (h : f_To_houseOn N σ a1 = some r) : CI Z 3 m_To_houseOn [rf Z 19, .int a1] σ r σ := by
  refine Ct.of (by decide +kernel) (Nat.le_of_ble_eq_true rfl) (fun Y => ?_)
  show V (mkB Z) Y m_To_houseOn 3 (QP (mkB Z) Y nC 0 0 (fun v t => v = some (.int r) ∧ t = σ)) 0 0 nC σ 0 [(0, rf Z 19), (1, .int a1)] []
  unfold f_To_houseOn at h
  refine V.iconst (v := 0) d_To_houseOn_0 (by decide) ?_
  refine V.istore_n (lv' := [(2, .int 0), (0, rf Z 19), (1, .int a1)]) d_To_houseOn_1 rfl (by decide) rfl ?_
  refine V.pick [1, 2, 0] rfl (cL_To_houseOn_l2 Z (Good := fun z => z = _) (fun r2v he => ?_) N _ _ h rfl)
  · cases he
    exact ⟨rfl, rfl⟩
abbrev m_Da_forgetShade : MI := (⟨"ShadeTown$Day", "forgetShade", "()V"⟩, prog_3_method_3_code, 1, (Option.none : Option Jvm.ClassFile.FieldType))
theorem d_Da_forgetShade_0 : decode prog_3_method_3_code 0 = .ok (.aload_n 0, 1) := by decide +kernel
theorem d_Da_forgetShade_1 : decode prog_3_method_3_code 1 = .ok (.iconst 0, 1) := by decide +kernel
theorem fl_Da_35 : FL "ShadeTown$Day" 35 T_Da 9 := atG 281 (by decide +kernel) rfl
theorem d_Da_forgetShade_2 : decode prog_3_method_3_code 2 = .ok (.putfield 35, 3) := by decide +kernel
theorem d_Da_forgetShade_5 : decode prog_3_method_3_code 5 = .ok (.return_, 1) := by decide +kernel
def f_Da_forgetShade (σ : Mem) : Option (Mem) :=
  letv (sI σ 33 9 0) fun σ2 =>
  some σ2
set_option maxHeartbeats 4000000 in
set_option maxRecDepth 20000 in
theorem c_Da_forgetShade (Z : ZX) {σ : Mem} {σ' : Mem} (h : f_Da_forgetShade σ = some σ') : CN Z 0 m_Da_forgetShade [rf Z 33] σ σ' := by
  refine Ct.of (by decide +kernel) (Nat.le_of_ble_eq_true rfl) (fun Y => ?_)
  show V (mkB Z) Y m_Da_forgetShade 0 (QP (mkB Z) Y nC 0 0 (fun v t => v = none ∧ t = σ')) 0 0 nC σ 0 [(0, rf Z 33)] []
  unfold f_Da_forgetShade at h
  refine V.aload_n d_Da_forgetShade_0 rfl 0 rfl ?_
  refine V.iconst (v := 0) d_Da_forgetShade_1 (by decide) ?_
  obtain ⟨σ2, e_σ2, h⟩ := letv_e h
  refine V.putI ok_Da fl_Da_35 (by decide) (by decide) ly_33 rfl rfl rfl rfl d_Da_forgetShade_2 (V.mem e_σ2 ?_)
  cases h
  exact V.vret rfl d_Da_forgetShade_5 ⟨rfl, rfl⟩
abbrev m_To_add : MI := (⟨"ShadeTown$Town", "add", "(IIIII)I"⟩, prog_9_method_9_code, 7, (Option.some Jvm.ClassFile.FieldType.int))
theorem d_To_add_0 : decode prog_9_method_9_code 0 = .ok (.aload_n 0, 1) := by decide +kernel
theorem d_To_add_1 : decode prog_9_method_9_code 1 = .ok (.getfield 30, 3) := by decide +kernel
theorem d_To_add_4 : decode prog_9_method_9_code 4 = .ok (.istore 6, 2) := by decide +kernel
theorem d_To_add_6 : decode prog_9_method_9_code 6 = .ok (.iload 6, 2) := by decide +kernel
theorem d_To_add_8 : decode prog_9_method_9_code 8 = .ok (.bipush 16, 2) := by decide +kernel
theorem d_To_add_15 : decode prog_9_method_9_code 15 = .ok (.aload_n 0, 1) := by decide +kernel
theorem d_To_add_16 : decode prog_9_method_9_code 16 = .ok (.getfield 11, 3) := by decide +kernel
theorem d_To_add_19 : decode prog_9_method_9_code 19 = .ok (.iload 6, 2) := by decide +kernel
theorem d_To_add_21 : decode prog_9_method_9_code 21 = .ok (.iload_n 1, 1) := by decide +kernel
theorem d_To_add_22 : decode prog_9_method_9_code 22 = .ok (.iastore, 1) := by decide +kernel
theorem d_To_add_23 : decode prog_9_method_9_code 23 = .ok (.aload_n 0, 1) := by decide +kernel
theorem d_To_add_24 : decode prog_9_method_9_code 24 = .ok (.getfield 15, 3) := by decide +kernel
theorem d_To_add_27 : decode prog_9_method_9_code 27 = .ok (.iload 6, 2) := by decide +kernel
theorem d_To_add_29 : decode prog_9_method_9_code 29 = .ok (.iload_n 2, 1) := by decide +kernel
theorem d_To_add_30 : decode prog_9_method_9_code 30 = .ok (.iastore, 1) := by decide +kernel
theorem d_To_add_31 : decode prog_9_method_9_code 31 = .ok (.aload_n 0, 1) := by decide +kernel
theorem fl_To_18 : FL "ShadeTown$Town" 18 T_To 2 := atG 222 (by decide +kernel) rfl
theorem d_To_add_32 : decode prog_9_method_9_code 32 = .ok (.getfield 18, 3) := by decide +kernel
theorem d_To_add_35 : decode prog_9_method_9_code 35 = .ok (.iload 6, 2) := by decide +kernel
theorem d_To_add_37 : decode prog_9_method_9_code 37 = .ok (.iload_n 3, 1) := by decide +kernel
theorem d_To_add_38 : decode prog_9_method_9_code 38 = .ok (.iastore, 1) := by decide +kernel
theorem d_To_add_39 : decode prog_9_method_9_code 39 = .ok (.aload_n 0, 1) := by decide +kernel
theorem fl_To_21 : FL "ShadeTown$Town" 21 T_To 3 := atG 225 (by decide +kernel) rfl
theorem d_To_add_40 : decode prog_9_method_9_code 40 = .ok (.getfield 21, 3) := by decide +kernel
theorem d_To_add_43 : decode prog_9_method_9_code 43 = .ok (.iload 6, 2) := by decide +kernel
theorem d_To_add_45 : decode prog_9_method_9_code 45 = .ok (.iload 4, 2) := by decide +kernel
theorem d_To_add_47 : decode prog_9_method_9_code 47 = .ok (.iastore, 1) := by decide +kernel
theorem d_To_add_48 : decode prog_9_method_9_code 48 = .ok (.aload_n 0, 1) := by decide +kernel
theorem fl_To_24 : FL "ShadeTown$Town" 24 T_To 4 := atG 228 (by decide +kernel) rfl
theorem d_To_add_49 : decode prog_9_method_9_code 49 = .ok (.getfield 24, 3) := by decide +kernel
theorem d_To_add_52 : decode prog_9_method_9_code 52 = .ok (.iload 6, 2) := by decide +kernel
theorem d_To_add_54 : decode prog_9_method_9_code 54 = .ok (.iload 5, 2) := by decide +kernel
theorem d_To_add_56 : decode prog_9_method_9_code 56 = .ok (.iastore, 1) := by decide +kernel
theorem d_To_add_57 : decode prog_9_method_9_code 57 = .ok (.aload_n 0, 1) := by decide +kernel
theorem d_To_add_58 : decode prog_9_method_9_code 58 = .ok (.dup, 1) := by decide +kernel
theorem d_To_add_59 : decode prog_9_method_9_code 59 = .ok (.getfield 34, 3) := by decide +kernel
theorem d_To_add_62 : decode prog_9_method_9_code 62 = .ok (.iconst 1, 1) := by decide +kernel
theorem d_To_add_63 : decode prog_9_method_9_code 63 = .ok (.iload 6, 2) := by decide +kernel
theorem d_To_add_65 : decode prog_9_method_9_code 65 = .ok (.ishl, 1) := by decide +kernel
theorem d_To_add_66 : decode prog_9_method_9_code 66 = .ok (.ior, 1) := by decide +kernel
theorem d_To_add_67 : decode prog_9_method_9_code 67 = .ok (.putfield 34, 3) := by decide +kernel
theorem d_To_add_70 : decode prog_9_method_9_code 70 = .ok (.aload_n 0, 1) := by decide +kernel
theorem d_To_add_71 : decode prog_9_method_9_code 71 = .ok (.dup, 1) := by decide +kernel
theorem d_To_add_72 : decode prog_9_method_9_code 72 = .ok (.getfield 30, 3) := by decide +kernel
theorem d_To_add_75 : decode prog_9_method_9_code 75 = .ok (.iconst 1, 1) := by decide +kernel
theorem d_To_add_76 : decode prog_9_method_9_code 76 = .ok (.iadd, 1) := by decide +kernel
theorem d_To_add_77 : decode prog_9_method_9_code 77 = .ok (.putfield 30, 3) := by decide +kernel
theorem d_To_add_80 : decode prog_9_method_9_code 80 = .ok (.iload 6, 2) := by decide +kernel
theorem d_To_add_82 : decode prog_9_method_9_code 82 = .ok (.ireturn, 1) := by decide +kernel
theorem d_To_add_13 : decode prog_9_method_9_code 13 = .ok (.iconst (-1), 1) := by decide +kernel
theorem d_To_add_14 : decode prog_9_method_9_code 14 = .ok (.ireturn, 1) := by decide +kernel
theorem d_To_add_10 : decode prog_9_method_9_code 10 = .ok (.if_icmp .lt 5, 3) := by decide +kernel
def f_To_add (σ : Mem) (a1 : Int32) (a2 : Int32) (a3 : Int32) (a4 : Int32) (a5 : Int32) : Option (Int32 × Mem) :=
  letv (mI σ 19 6) fun v4 =>
  if v4 < 16 then
    (grd (inb v4 17) <|
    letv (sI σ 20 (v4.toNatClampNeg) a1) fun σ22 =>
    grd (inb v4 17) <|
    letv (sI σ22 21 (v4.toNatClampNeg) a2) fun σ30 =>
    grd (inb v4 17) <|
    letv (sI σ30 22 (v4.toNatClampNeg) a3) fun σ38 =>
    grd (inb v4 17) <|
    letv (sI σ38 23 (v4.toNatClampNeg) a4) fun σ47 =>
    grd (inb v4 17) <|
    letv (sI σ47 24 (v4.toNatClampNeg) a5) fun σ56 =>
    letv (sI σ56 19 7 ((mI σ56 19 7) ||| (1 <<< (v4 &&& 31)))) fun σ67 =>
    letv (sI σ67 19 6 ((mI σ67 19 6) + 1)) fun σ77 =>
    some (v4, σ77))
  else
    (some ((-1), σ))
set_option maxHeartbeats 4000000 in
set_option maxRecDepth 20000 in
theorem c_To_add (Z : ZX) {σ : Mem} {a1 : Int32} {a2 : Int32} {a3 : Int32} {a4 : Int32} {a5 : Int32} {r : Int32} {σ' : Mem} (h : f_To_add σ a1 a2 a3 a4 a5 = some (r, σ')) : CI Z 0 m_To_add [rf Z 19, .int a1, .int a2, .int a3, .int a4, .int a5] σ r σ' := by
  refine Ct.of (by decide +kernel) (Nat.le_of_ble_eq_true rfl) (fun Y => ?_)
  show V (mkB Z) Y m_To_add 0 (QP (mkB Z) Y nC 0 0 (fun v t => v = some (.int r) ∧ t = σ')) 0 0 nC σ 0 [(0, rf Z 19), (1, .int a1), (2, .int a2), (3, .int a3), (4, .int a4), (5, .int a5)] []
  unfold f_To_add at h
  refine V.aload_n d_To_add_0 rfl 0 rfl ?_
  refine V.getI ok_To fl_To_30 (by decide) (by decide) ly_19 rfl d_To_add_1 ?_
  obtain ⟨v4, e_v4, h⟩ := letv_e h
  refine V.topI e_v4 ?_
  refine V.istore (lv' := [(6, .int v4), (0, rf Z 19), (1, .int a1), (2, .int a2), (3, .int a3), (4, .int a4), (5, .int a5)]) d_To_add_4 (by decide) rfl ?_
  refine V.iload d_To_add_6 0 rfl ?_
  refine V.bipush (v := 16) d_To_add_8 (by decide) ?_
  refine V.icmp_lt (tgt := 15) d_To_add_10 (by decide) (fun hc10 => ?_) (fun hc10 => ?_)
  · replace h := ite_t hc10 h
    refine V.aload_n d_To_add_15 rfl 1 rfl ?_
    refine V.getR (r := 20) ok_To fl_To_11 (by decide) (by decide) ly_19 rfl d_To_add_16 ?_
    refine V.iload d_To_add_19 0 rfl ?_
    refine V.iload_n d_To_add_21 rfl 2 rfl ?_
    obtain ⟨gq, h⟩ := grd_e h
    obtain ⟨σ22, e_σ22, h⟩ := letv_e h
    refine V.wa (by decide) ly_20 (inb_e gq) rfl d_To_add_22 e_σ22 ?_
    refine V.aload_n d_To_add_23 rfl 1 rfl ?_
    refine V.getR (r := 21) ok_To fl_To_15 (by decide) (by decide) ly_19 rfl d_To_add_24 ?_
    refine V.iload d_To_add_27 0 rfl ?_
    refine V.iload_n d_To_add_29 rfl 3 rfl ?_
    obtain ⟨gq, h⟩ := grd_e h
    obtain ⟨σ30, e_σ30, h⟩ := letv_e h
    refine V.wa (by decide) ly_21 (inb_e gq) rfl d_To_add_30 e_σ30 ?_
    refine V.aload_n d_To_add_31 rfl 1 rfl ?_
    refine V.getR (r := 22) ok_To fl_To_18 (by decide) (by decide) ly_19 rfl d_To_add_32 ?_
    refine V.iload d_To_add_35 0 rfl ?_
    refine V.iload_n d_To_add_37 rfl 4 rfl ?_
    obtain ⟨gq, h⟩ := grd_e h
    obtain ⟨σ38, e_σ38, h⟩ := letv_e h
    refine V.wa (by decide) ly_22 (inb_e gq) rfl d_To_add_38 e_σ38 ?_
    refine V.aload_n d_To_add_39 rfl 1 rfl ?_
    refine V.getR (r := 23) ok_To fl_To_21 (by decide) (by decide) ly_19 rfl d_To_add_40 ?_
    refine V.iload d_To_add_43 0 rfl ?_
    refine V.iload d_To_add_45 5 rfl ?_
    obtain ⟨gq, h⟩ := grd_e h
    obtain ⟨σ47, e_σ47, h⟩ := letv_e h
    refine V.wa (by decide) ly_23 (inb_e gq) rfl d_To_add_47 e_σ47 ?_
    refine V.aload_n d_To_add_48 rfl 1 rfl ?_
    refine V.getR (r := 24) ok_To fl_To_24 (by decide) (by decide) ly_19 rfl d_To_add_49 ?_
    refine V.iload d_To_add_52 0 rfl ?_
    refine V.iload d_To_add_54 6 rfl ?_
    obtain ⟨gq, h⟩ := grd_e h
    obtain ⟨σ56, e_σ56, h⟩ := letv_e h
    refine V.wa (by decide) ly_24 (inb_e gq) rfl d_To_add_56 e_σ56 ?_
    refine V.aload_n d_To_add_57 rfl 1 rfl ?_
    refine V.dup d_To_add_58 rfl ?_
    refine V.getI ok_To fl_To_34 (by decide) (by decide) ly_19 rfl d_To_add_59 ?_
    refine V.iconst (v := 1) d_To_add_62 (by decide) ?_
    refine V.iload d_To_add_63 0 rfl ?_
    refine V.ishl d_To_add_65 ?_
    refine V.ior d_To_add_66 ?_
    obtain ⟨σ67, e_σ67, h⟩ := letv_e h
    refine V.putI ok_To fl_To_34 (by decide) (by decide) ly_19 rfl rfl rfl rfl d_To_add_67 (V.mem e_σ67 ?_)
    refine V.aload_n d_To_add_70 rfl 1 rfl ?_
    refine V.dup d_To_add_71 rfl ?_
    refine V.getI ok_To fl_To_30 (by decide) (by decide) ly_19 rfl d_To_add_72 ?_
    refine V.iconst (v := 1) d_To_add_75 (by decide) ?_
    refine V.iadd d_To_add_76 ?_
    obtain ⟨σ77, e_σ77, h⟩ := letv_e h
    refine V.putI ok_To fl_To_30 (by decide) (by decide) ly_19 rfl rfl rfl rfl d_To_add_77 (V.mem e_σ77 ?_)
    refine V.iload d_To_add_80 0 rfl ?_
    cases h
    exact V.iret rfl d_To_add_82 ⟨rfl, rfl⟩
  · replace h := ite_f hc10 h
    refine V.iconst (v := (-1)) d_To_add_13 (by decide) ?_
    cases h
    exact V.iret rfl d_To_add_14 ⟨rfl, rfl⟩
abbrev m_Sh_caster : MI := (⟨"ShadeTown", "caster", "(IIIII)I"⟩, prog_1_method_4_code, 8, (Option.some Jvm.ClassFile.FieldType.int))
theorem d_Sh_caster_0 : decode prog_1_method_4_code 0 = .ok (.iload_n 1, 1) := by decide +kernel
theorem d_Sh_caster_4 : decode prog_1_method_4_code 4 = .ok (.iload_n 1, 1) := by decide +kernel
theorem d_Sh_caster_5 : decode prog_1_method_4_code 5 = .ok (.iconst 1, 1) := by decide +kernel
theorem d_Sh_caster_9 : decode prog_1_method_4_code 9 = .ok (.iload_n 1, 1) := by decide +kernel
theorem d_Sh_caster_10 : decode prog_1_method_4_code 10 = .ok (.iconst 3, 1) := by decide +kernel
theorem d_Sh_caster_11 : decode prog_1_method_4_code 11 = .ok (.if_icmp .ne 7, 3) := by decide +kernel
theorem d_Sh_caster_6 : decode prog_1_method_4_code 6 = .ok (.if_icmp .eq 8, 3) := by decide +kernel
theorem d_Sh_caster_1 : decode prog_1_method_4_code 1 = .ok (.ifCond .eq 13, 3) := by decide +kernel
theorem d_Sh_caster_14 : decode prog_1_method_4_code 14 = .ok (.iconst 1, 1) := by decide +kernel
theorem d_Sh_caster_15 : decode prog_1_method_4_code 15 = .ok (.goto 4, 3) := by decide +kernel
theorem d_Sh_caster_18 : decode prog_1_method_4_code 18 = .ok (.iconst 0, 1) := by decide +kernel
theorem d_Sh_caster_19 : decode prog_1_method_4_code 19 = .ok (.istore 6, 2) := by decide +kernel
theorem d_Sh_caster_21 : decode prog_1_method_4_code 21 = .ok (.iload 6, 2) := by decide +kernel
theorem d_Sh_caster_26 : decode prog_1_method_4_code 26 = .ok (.iload_n 2, 1) := by decide +kernel
theorem d_Sh_caster_27 : decode prog_1_method_4_code 27 = .ok (.iload_n 3, 1) := by decide +kernel
theorem d_Sh_caster_28 : decode prog_1_method_4_code 28 = .ok (.invokestatic 119, 3) := by decide +kernel
theorem k_Sh_inTown : MOk m_Sh_inTown 2 ∧ Cond.static m_Sh_inTown.1 ∈ tblG := ⟨⟨atG 694 (by decide +kernel) rfl, atG 111 (by decide +kernel) rfl, ⟨by decide, by decide⟩, by decide +kernel, by decide⟩, atG 693 (by decide +kernel) rfl⟩
theorem lk_Sh_119 : Cond.methodLink "ShadeTown" 119 ⟨"ShadeTown", "inTown", "(II)Z"⟩ ∈ tblG := atG 692 (by decide +kernel) rfl
theorem d_Sh_caster_34 : decode prog_1_method_4_code 34 = .ok (.iload 4, 2) := by decide +kernel
theorem d_Sh_caster_36 : decode prog_1_method_4_code 36 = .ok (.iconst 1, 1) := by decide +kernel
theorem d_Sh_caster_40 : decode prog_1_method_4_code 40 = .ok (.iload 4, 2) := by decide +kernel
theorem d_Sh_caster_42 : decode prog_1_method_4_code 42 = .ok (.bipush 99, 2) := by decide +kernel
theorem d_Sh_caster_47 : decode prog_1_method_4_code 47 = .ok (.iload 5, 2) := by decide +kernel
theorem d_Sh_caster_49 : decode prog_1_method_4_code 49 = .ok (.invokestatic 123, 3) := by decide +kernel
theorem k_Sh_isOwner : MOk m_Sh_isOwner 1 ∧ Cond.static m_Sh_isOwner.1 ∈ tblG := ⟨⟨atG 697 (by decide +kernel) rfl, atG 111 (by decide +kernel) rfl, ⟨by decide, by decide⟩, by decide +kernel, by decide⟩, atG 696 (by decide +kernel) rfl⟩
theorem lk_Sh_123 : Cond.methodLink "ShadeTown" 123 ⟨"ShadeTown", "isOwner", "(I)Z"⟩ ∈ tblG := atG 695 (by decide +kernel) rfl
theorem d_Sh_caster_55 : decode prog_1_method_4_code 55 = .ok (.aload_n 0, 1) := by decide +kernel
theorem fl_Sh_38 : FL "ShadeTown" 38 T_Sh 4 := atG 423 (by decide +kernel) rfl
theorem d_Sh_caster_56 : decode prog_1_method_4_code 56 = .ok (.getfield 38, 3) := by decide +kernel
theorem d_Sh_caster_59 : decode prog_1_method_4_code 59 = .ok (.invokevirtual 126, 3) := by decide +kernel
theorem k_To_isFull : MOk m_To_isFull 0 ∧ IOk m_To_isFull := ⟨⟨atG 701 (by decide +kernel) rfl, atG 115 (by decide +kernel) rfl, ⟨by decide, by decide⟩, by decide +kernel, by decide⟩, atG 699 (by decide +kernel) rfl, atG 700 (by decide +kernel) rfl⟩
theorem lk_Sh_126 : Cond.methodLink "ShadeTown" 126 ⟨"ShadeTown$Town", "isFull", "()Z"⟩ ∈ tblG := atG 698 (by decide +kernel) rfl
theorem d_Sh_caster_67 : decode prog_1_method_4_code 67 = .ok (.bipush 12, 2) := by decide +kernel
theorem d_Sh_caster_69 : decode prog_1_method_4_code 69 = .ok (.iload_n 3, 1) := by decide +kernel
theorem d_Sh_caster_70 : decode prog_1_method_4_code 70 = .ok (.imul, 1) := by decide +kernel
theorem d_Sh_caster_71 : decode prog_1_method_4_code 71 = .ok (.iload_n 2, 1) := by decide +kernel
theorem d_Sh_caster_72 : decode prog_1_method_4_code 72 = .ok (.iadd, 1) := by decide +kernel
theorem d_Sh_caster_73 : decode prog_1_method_4_code 73 = .ok (.istore 7, 2) := by decide +kernel
theorem d_Sh_caster_75 : decode prog_1_method_4_code 75 = .ok (.iload_n 1, 1) := by decide +kernel
theorem d_Sh_caster_79 : decode prog_1_method_4_code 79 = .ok (.aload_n 0, 1) := by decide +kernel
theorem d_Sh_caster_80 : decode prog_1_method_4_code 80 = .ok (.getfield 38, 3) := by decide +kernel
theorem d_Sh_caster_83 : decode prog_1_method_4_code 83 = .ok (.iload 7, 2) := by decide +kernel
theorem d_Sh_caster_85 : decode prog_1_method_4_code 85 = .ok (.invokevirtual 130, 3) := by decide +kernel
theorem k_To_houseOn : MOk m_To_houseOn 1 ∧ IOk m_To_houseOn := ⟨⟨atG 705 (by decide +kernel) rfl, atG 115 (by decide +kernel) rfl, ⟨by decide, by decide⟩, by decide +kernel, by decide⟩, atG 703 (by decide +kernel) rfl, atG 704 (by decide +kernel) rfl⟩
theorem lk_Sh_130 : Cond.methodLink "ShadeTown" 130 ⟨"ShadeTown$Town", "houseOn", "(I)I"⟩ ∈ tblG := atG 702 (by decide +kernel) rfl
theorem d_Sh_caster_88 : decode prog_1_method_4_code 88 = .ok (.iconst (-1), 1) := by decide +kernel
theorem d_Sh_caster_89 : decode prog_1_method_4_code 89 = .ok (.if_icmp .eq 6, 3) := by decide +kernel
theorem d_Sh_caster_76 : decode prog_1_method_4_code 76 = .ok (.ifCond .ne 19, 3) := by decide +kernel
theorem d_Sh_caster_62 : decode prog_1_method_4_code 62 = .ok (.ifCond .eq 5, 3) := by decide +kernel
theorem d_Sh_caster_52 : decode prog_1_method_4_code 52 = .ok (.ifCond .eq 13, 3) := by decide +kernel
theorem d_Sh_caster_44 : decode prog_1_method_4_code 44 = .ok (.if_icmp .gt 21, 3) := by decide +kernel
theorem d_Sh_caster_37 : decode prog_1_method_4_code 37 = .ok (.if_icmp .lt 28, 3) := by decide +kernel
theorem d_Sh_caster_31 : decode prog_1_method_4_code 31 = .ok (.ifCond .eq 34, 3) := by decide +kernel
theorem d_Sh_caster_23 : decode prog_1_method_4_code 23 = .ok (.ifCond .eq 42, 3) := by decide +kernel
theorem d_Sh_caster_65 : decode prog_1_method_4_code 65 = .ok (.iconst (-1), 1) := by decide +kernel
theorem d_Sh_caster_66 : decode prog_1_method_4_code 66 = .ok (.ireturn, 1) := by decide +kernel
theorem d_Sh_caster_95 : decode prog_1_method_4_code 95 = .ok (.aload_n 0, 1) := by decide +kernel
theorem fl_Sh_54 : FL "ShadeTown" 54 T_Sh 7 := atG 426 (by decide +kernel) rfl
theorem d_Sh_caster_96 : decode prog_1_method_4_code 96 = .ok (.getfield 54, 3) := by decide +kernel
theorem d_Sh_caster_99 : decode prog_1_method_4_code 99 = .ok (.invokevirtual 133, 3) := by decide +kernel
theorem k_Da_forgetShade : MOk m_Da_forgetShade 0 ∧ IOk m_Da_forgetShade := ⟨⟨atG 721 (by decide +kernel) rfl, atG 116 (by decide +kernel) rfl, ⟨by decide, by decide⟩, by decide +kernel, by decide⟩, atG 719 (by decide +kernel) rfl, atG 720 (by decide +kernel) rfl⟩
theorem lk_Sh_133 : Cond.methodLink "ShadeTown" 133 ⟨"ShadeTown$Day", "forgetShade", "()V"⟩ ∈ tblG := atG 718 (by decide +kernel) rfl
theorem d_Sh_caster_102 : decode prog_1_method_4_code 102 = .ok (.aload_n 0, 1) := by decide +kernel
theorem d_Sh_caster_103 : decode prog_1_method_4_code 103 = .ok (.getfield 38, 3) := by decide +kernel
theorem d_Sh_caster_106 : decode prog_1_method_4_code 106 = .ok (.iload_n 1, 1) := by decide +kernel
theorem d_Sh_caster_107 : decode prog_1_method_4_code 107 = .ok (.iload 7, 2) := by decide +kernel
theorem d_Sh_caster_109 : decode prog_1_method_4_code 109 = .ok (.iload 4, 2) := by decide +kernel
theorem d_Sh_caster_111 : decode prog_1_method_4_code 111 = .ok (.iconst 0, 1) := by decide +kernel
theorem d_Sh_caster_112 : decode prog_1_method_4_code 112 = .ok (.iload 5, 2) := by decide +kernel
theorem d_Sh_caster_114 : decode prog_1_method_4_code 114 = .ok (.invokevirtual 136, 3) := by decide +kernel
theorem k_To_add : MOk m_To_add 5 ∧ IOk m_To_add := ⟨⟨atG 725 (by decide +kernel) rfl, atG 115 (by decide +kernel) rfl, ⟨by decide, by decide⟩, by decide +kernel, by decide⟩, atG 723 (by decide +kernel) rfl, atG 724 (by decide +kernel) rfl⟩
theorem lk_Sh_136 : Cond.methodLink "ShadeTown" 136 ⟨"ShadeTown$Town", "add", "(IIIII)I"⟩ ∈ tblG := atG 722 (by decide +kernel) rfl
theorem d_Sh_caster_117 : decode prog_1_method_4_code 117 = .ok (.ireturn, 1) := by decide +kernel
theorem d_Sh_caster_92 : decode prog_1_method_4_code 92 = .ok (.bipush (-2), 2) := by decide +kernel
theorem d_Sh_caster_94 : decode prog_1_method_4_code 94 = .ok (.ireturn, 1) := by decide +kernel
def f_Sh_caster (N : Nat) (σ : Mem) (a1 : Int32) (a2 : Int32) (a3 : Int32) (a4 : Int32) (a5 : Int32) : Option (Int32 × Mem) :=
  bnd1 ((
    bnd1 ((
      if a1 = 0 then
        (some 0)
      else
        (if a1 = 1 then
          (some 0)
        else
          (if a1 = 3 then
            (some 0)
          else
            (some 1)))) : Option (Nat)) fun t1 =>
    if t1 = 0 then
      (some 1)
    else
    (some 0)) : Option (Int32)) fun y1_s0 =>
  bnd1 ((
    if y1_s0 = 0 then
      (some (0, 0))
    else
      (bnd1 (f_Sh_inTown a2 a3) fun r28 =>
      if r28 = 0 then
        (some (0, 0))
      else
        (if a4 < 1 then
          (some (0, 0))
        else
          (if 99 < a4 then
            (some (0, 0))
          else
            (bnd1 (f_Sh_isOwner a5) fun r49 =>
            if r49 = 0 then
              (some (0, 0))
            else
              (bnd1 (f_To_isFull σ) fun r59 =>
              if r59 = 0 then
                (letv ((12 * a3) + a2) fun v73 =>
                if a1 = 0 then
                  (bnd1 (f_To_houseOn N σ v73) fun r85 =>
                  if r85 = (-1) then
                    (some (1, v73))
                  else
                    (some (2, v73)))
                else
                  (some (1, v73)))
              else
                (some (0, 0)))))))) : Option (Nat × Int32)) fun s23 =>
  q2 s23 fun t23 y23_7 =>
  if t23 = 0 then
    (some ((-1), σ))
  else
  if t23 = 1 then
    (bnd1 (f_Da_forgetShade σ) fun σ99 =>
    bnd2 (f_To_add σ99 a1 y23_7 a4 0 a5) fun r114 σ114 =>
    some (r114, σ114))
  else
  (some ((-2), σ))
set_option maxHeartbeats 4000000 in
set_option maxRecDepth 20000 in
theorem c_Sh_caster (Z : ZX) {N : Nat} {σ : Mem} {a1 : Int32} {a2 : Int32} {a3 : Int32} {a4 : Int32} {a5 : Int32} {r : Int32} {σ' : Mem} (h : f_Sh_caster N σ a1 a2 a3 a4 a5 = some (r, σ')) : CI Z 4 m_Sh_caster [rf Z 0, .int a1, .int a2, .int a3, .int a4, .int a5] σ r σ' := by
  refine Ct.of (by decide +kernel) (Nat.le_of_ble_eq_true rfl) (fun Y => ?_)
  show V (mkB Z) Y m_Sh_caster 4 (QP (mkB Z) Y nC 0 0 (fun v t => v = some (.int r) ∧ t = σ')) 0 0 nC σ 0 [(0, rf Z 0), (1, .int a1), (2, .int a2), (3, .int a3), (4, .int a4), (5, .int a5)] []
  unfold f_Sh_caster at h
  refine V.iload_n d_Sh_caster_0 rfl 1 rfl ?_
  obtain ⟨s1, h1, h⟩ := bnd1_e h
  have J1_19 : ∀ (y1_s0 : Int32), s1 = y1_s0 → V (mkB Z) Y m_Sh_caster 4 (QP (mkB Z) Y nC 0 0 (fun v t => v = some (.int r) ∧ t = σ')) 0 0 nC σ 19 [(0, rf Z 0), (1, .int a1), (2, .int a2), (3, .int a3), (4, .int a4), (5, .int a5)] [.int y1_s0] := by
    intro y1_s0 he
    rw [he] at h
    refine V.istore (lv' := [(6, .int y1_s0), (0, rf Z 0), (1, .int a1), (2, .int a2), (3, .int a3), (4, .int a4), (5, .int a5)]) d_Sh_caster_19 (by decide) rfl ?_
    refine V.iload d_Sh_caster_21 0 rfl ?_
    obtain ⟨s23, h1, h⟩ := bnd1_e h
    have J23_65 : ∀ (y23_7 : Int32), s23 = (0, y23_7) → V (mkB Z) Y m_Sh_caster 4 (QP (mkB Z) Y nC 0 0 (fun v t => v = some (.int r) ∧ t = σ')) 0 0 nC σ 65 [] [] := by
      intro y23_7 he
      rw [he] at h
      replace h := q2_e h
      replace h := ite_t rfl h
      refine V.iconst (v := (-1)) d_Sh_caster_65 (by decide) ?_
      cases h
      exact V.iret rfl d_Sh_caster_66 ⟨rfl, rfl⟩
    have J23_95 : ∀ (y23_7 : Int32), s23 = (1, y23_7) → V (mkB Z) Y m_Sh_caster 4 (QP (mkB Z) Y nC 0 0 (fun v t => v = some (.int r) ∧ t = σ')) 0 0 nC σ 95 [(0, rf Z 0), (1, .int a1), (4, .int a4), (5, .int a5), (7, .int y23_7)] [] := by
      intro y23_7 he
      rw [he] at h
      replace h := q2_e h
      replace h := ite_f (by decide) h
      replace h := ite_t rfl h
      refine V.aload_n d_Sh_caster_95 rfl 0 rfl ?_
      refine V.getR (r := 33) ok_Sh fl_Sh_54 (by decide) (by decide) ly_0 rfl d_Sh_caster_96 ?_
      obtain ⟨σ99, h1, h⟩ := bnd1_e h
      refine V.vN (as := []) (st := []) (c_Da_forgetShade Z h1) k_Da_forgetShade lk_Sh_133 (by decide) rfl (by decide) ly_33 ok_Da.1 rfl (Nat.le_of_ble_eq_true rfl) d_Sh_caster_99 ?_
      refine V.aload_n d_Sh_caster_102 rfl 0 rfl ?_
      refine V.getR (r := 19) ok_Sh fl_Sh_38 (by decide) (by decide) ly_0 rfl d_Sh_caster_103 ?_
      refine V.iload_n d_Sh_caster_106 rfl 1 rfl ?_
      refine V.iload d_Sh_caster_107 4 rfl ?_
      refine V.iload d_Sh_caster_109 2 rfl ?_
      refine V.iconst (v := 0) d_Sh_caster_111 (by decide) ?_
      refine V.iload d_Sh_caster_112 3 rfl ?_
      obtain ⟨r114, σ114, h1, h⟩ := bnd2_e h
      refine V.vI (as := [.int a1, .int y23_7, .int a4, .int 0, .int a5]) (st := []) (c_To_add Z h1) k_To_add lk_Sh_136 (by decide) rfl (by decide) ly_19 ok_To.1 rfl (Nat.le_of_ble_eq_true rfl) d_Sh_caster_114 ?_
      cases h
      exact V.iret rfl d_Sh_caster_117 ⟨rfl, rfl⟩
    have J23_92 : ∀ (y23_7 : Int32), s23 = (2, y23_7) → V (mkB Z) Y m_Sh_caster 4 (QP (mkB Z) Y nC 0 0 (fun v t => v = some (.int r) ∧ t = σ')) 0 0 nC σ 92 [] [] := by
      intro y23_7 he
      rw [he] at h
      replace h := q2_e h
      replace h := ite_f (by decide) h
      replace h := ite_f (by decide) h
      refine V.bipush (v := (-2)) d_Sh_caster_92 (by decide) ?_
      cases h
      exact V.iret rfl d_Sh_caster_94 ⟨rfl, rfl⟩
    replace h := h1
    refine V.if_eq (tgt := 65) d_Sh_caster_23 (by decide) (fun hc23 => ?_) (fun hc23 => ?_)
    · replace h := ite_t hc23 h
      exact V.pick [] rfl (J23_65 _ (Option.some.inj h).symm)
    · replace h := ite_f hc23 h
      refine V.iload_n d_Sh_caster_26 rfl 3 rfl ?_
      refine V.iload_n d_Sh_caster_27 rfl 4 rfl ?_
      obtain ⟨r28, h1, h⟩ := bnd1_e h
      refine V.sI (as := [.int a2, .int a3]) (st := []) (c_Sh_inTown Z h1) k_Sh_inTown lk_Sh_119 (by decide) rfl rfl (Nat.le_of_ble_eq_true rfl) d_Sh_caster_28 ?_
      refine V.if_eq (tgt := 65) d_Sh_caster_31 (by decide) (fun hc31 => ?_) (fun hc31 => ?_)
      · replace h := ite_t hc31 h
        exact V.pick [] rfl (J23_65 _ (Option.some.inj h).symm)
      · replace h := ite_f hc31 h
        refine V.iload d_Sh_caster_34 5 rfl ?_
        refine V.iconst (v := 1) d_Sh_caster_36 (by decide) ?_
        refine V.icmp_lt (tgt := 65) d_Sh_caster_37 (by decide) (fun hc37 => ?_) (fun hc37 => ?_)
        · replace h := ite_t hc37 h
          exact V.pick [] rfl (J23_65 _ (Option.some.inj h).symm)
        · replace h := ite_f hc37 h
          refine V.iload d_Sh_caster_40 5 rfl ?_
          refine V.bipush (v := 99) d_Sh_caster_42 (by decide) ?_
          refine V.icmp_gt (tgt := 65) d_Sh_caster_44 (by decide) (fun hc44 => ?_) (fun hc44 => ?_)
          · replace h := ite_t hc44 h
            exact V.pick [] rfl (J23_65 _ (Option.some.inj h).symm)
          · replace h := ite_f hc44 h
            refine V.iload d_Sh_caster_47 6 rfl ?_
            obtain ⟨r49, h1, h⟩ := bnd1_e h
            refine V.sI (as := [.int a5]) (st := []) (c_Sh_isOwner Z h1) k_Sh_isOwner lk_Sh_123 (by decide) rfl rfl (Nat.le_of_ble_eq_true rfl) d_Sh_caster_49 ?_
            refine V.if_eq (tgt := 65) d_Sh_caster_52 (by decide) (fun hc52 => ?_) (fun hc52 => ?_)
            · replace h := ite_t hc52 h
              exact V.pick [] rfl (J23_65 _ (Option.some.inj h).symm)
            · replace h := ite_f hc52 h
              refine V.aload_n d_Sh_caster_55 rfl 1 rfl ?_
              refine V.getR (r := 19) ok_Sh fl_Sh_38 (by decide) (by decide) ly_0 rfl d_Sh_caster_56 ?_
              obtain ⟨r59, h1, h⟩ := bnd1_e h
              refine V.vI (as := []) (st := []) (c_To_isFull Z h1) k_To_isFull lk_Sh_126 (by decide) rfl (by decide) ly_19 ok_To.1 rfl (Nat.le_of_ble_eq_true rfl) d_Sh_caster_59 ?_
              refine V.if_eq (tgt := 67) d_Sh_caster_62 (by decide) (fun hc62 => ?_) (fun hc62 => ?_)
              · replace h := ite_t hc62 h
                refine V.bipush (v := 12) d_Sh_caster_67 (by decide) ?_
                refine V.iload_n d_Sh_caster_69 rfl 4 rfl ?_
                refine V.imul d_Sh_caster_70 ?_
                refine V.iload_n d_Sh_caster_71 rfl 3 rfl ?_
                refine V.iadd d_Sh_caster_72 ?_
                obtain ⟨v73, e_v73, h⟩ := letv_e h
                refine V.topI e_v73 ?_
                refine V.istore (lv' := [(7, .int v73), (6, .int y1_s0), (0, rf Z 0), (1, .int a1), (2, .int a2), (3, .int a3), (4, .int a4), (5, .int a5)]) d_Sh_caster_73 (by decide) rfl ?_
                refine V.iload_n d_Sh_caster_75 rfl 3 rfl ?_
                refine V.if_ne (tgt := 95) d_Sh_caster_76 (by decide) (fun hc76 => ?_) (fun hc76 => ?_)
                · replace h := ite_f hc76 h
                  exact V.pick [2, 3, 6, 7, 0] rfl (J23_95 _ (Option.some.inj h).symm)
                · replace h := ite_t hc76 h
                  refine V.aload_n d_Sh_caster_79 rfl 2 rfl ?_
                  refine V.getR (r := 19) ok_Sh fl_Sh_38 (by decide) (by decide) ly_0 rfl d_Sh_caster_80 ?_
                  refine V.iload d_Sh_caster_83 0 rfl ?_
                  obtain ⟨r85, h1, h⟩ := bnd1_e h
                  refine V.vI (as := [.int v73]) (st := []) (c_To_houseOn Z h1) k_To_houseOn lk_Sh_130 (by decide) rfl (by decide) ly_19 ok_To.1 rfl (Nat.le_of_ble_eq_true rfl) d_Sh_caster_85 ?_
                  refine V.iconst (v := (-1)) d_Sh_caster_88 (by decide) ?_
                  refine V.icmp_eq (tgt := 95) d_Sh_caster_89 (by decide) (fun hc89 => ?_) (fun hc89 => ?_)
                  · replace h := ite_t hc89 h
                    exact V.pick [2, 3, 6, 7, 0] rfl (J23_95 _ (Option.some.inj h).symm)
                  · replace h := ite_f hc89 h
                    exact V.pick [] rfl (J23_92 _ (Option.some.inj h).symm)
              · replace h := ite_f hc62 h
                exact V.pick [] rfl (J23_65 _ (Option.some.inj h).symm)
  replace h := h1
  obtain ⟨s1, h1, h⟩ := bnd1_e h
  have J1_14 : s1 = 0 → V (mkB Z) Y m_Sh_caster 4 (QP (mkB Z) Y nC 0 0 (fun v t => v = some (.int r) ∧ t = σ')) 0 0 nC σ 14 [(0, rf Z 0), (1, .int a1), (2, .int a2), (3, .int a3), (4, .int a4), (5, .int a5)] [] := by
    intro he
    rw [he] at h
    replace h := ite_t rfl h
    refine V.iconst (v := 1) d_Sh_caster_14 (by decide) ?_
    refine V.goto (tgt := 19) d_Sh_caster_15 (by decide) ?_
    exact V.pick [0, 1, 2, 3, 4, 5] rfl (J1_19 _ (Option.some.inj h).symm)
  have J1_18 : s1 = 1 → V (mkB Z) Y m_Sh_caster 4 (QP (mkB Z) Y nC 0 0 (fun v t => v = some (.int r) ∧ t = σ')) 0 0 nC σ 18 [(0, rf Z 0), (1, .int a1), (2, .int a2), (3, .int a3), (4, .int a4), (5, .int a5)] [] := by
    intro he
    rw [he] at h
    replace h := ite_f (by decide) h
    refine V.iconst (v := 0) d_Sh_caster_18 (by decide) ?_
    exact V.pick [0, 1, 2, 3, 4, 5] rfl (J1_19 _ (Option.some.inj h).symm)
  replace h := h1
  refine V.if_eq (tgt := 14) d_Sh_caster_1 (by decide) (fun hc1 => ?_) (fun hc1 => ?_)
  · replace h := ite_t hc1 h
    exact V.pick [0, 1, 2, 3, 4, 5] rfl (J1_14 (Option.some.inj h).symm)
  · replace h := ite_f hc1 h
    refine V.iload_n d_Sh_caster_4 rfl 1 rfl ?_
    refine V.iconst (v := 1) d_Sh_caster_5 (by decide) ?_
    refine V.icmp_eq (tgt := 14) d_Sh_caster_6 (by decide) (fun hc6 => ?_) (fun hc6 => ?_)
    · replace h := ite_t hc6 h
      exact V.pick [0, 1, 2, 3, 4, 5] rfl (J1_14 (Option.some.inj h).symm)
    · replace h := ite_f hc6 h
      refine V.iload_n d_Sh_caster_9 rfl 1 rfl ?_
      refine V.iconst (v := 3) d_Sh_caster_10 (by decide) ?_
      refine V.icmp_ne (tgt := 18) d_Sh_caster_11 (by decide) (fun hc11 => ?_) (fun hc11 => ?_)
      · replace h := ite_f hc11 h
        exact V.pick [0, 1, 2, 3, 4, 5] rfl (J1_18 (Option.some.inj h).symm)
      · replace h := ite_t hc11 h
        exact V.pick [0, 1, 2, 3, 4, 5] rfl (J1_14 (Option.some.inj h).symm)
abbrev m_Sh_isLength : MI := (⟨"ShadeTown", "isLength", "(I)Z"⟩, prog_1_method_46_code, 1, (Option.some Jvm.ClassFile.FieldType.boolean))
theorem d_Sh_isLength_0 : decode prog_1_method_46_code 0 = .ok (.iload_n 0, 1) := by decide +kernel
theorem d_Sh_isLength_1 : decode prog_1_method_46_code 1 = .ok (.iconst 1, 1) := by decide +kernel
theorem d_Sh_isLength_14 : decode prog_1_method_46_code 14 = .ok (.iconst 0, 1) := by decide +kernel
theorem d_Sh_isLength_15 : decode prog_1_method_46_code 15 = .ok (.ireturn, 1) := by decide +kernel
theorem d_Sh_isLength_5 : decode prog_1_method_46_code 5 = .ok (.iload_n 0, 1) := by decide +kernel
theorem d_Sh_isLength_6 : decode prog_1_method_46_code 6 = .ok (.iconst 3, 1) := by decide +kernel
theorem d_Sh_isLength_10 : decode prog_1_method_46_code 10 = .ok (.iconst 1, 1) := by decide +kernel
theorem d_Sh_isLength_11 : decode prog_1_method_46_code 11 = .ok (.goto 4, 3) := by decide +kernel
theorem d_Sh_isLength_7 : decode prog_1_method_46_code 7 = .ok (.if_icmp .gt 7, 3) := by decide +kernel
theorem d_Sh_isLength_2 : decode prog_1_method_46_code 2 = .ok (.if_icmp .lt 12, 3) := by decide +kernel
def f_Sh_isLength (a0 : Int32) : Option (Int32) :=
  if a0 < 1 then
    (some 0)
  else
    (if 3 < a0 then
      (some 0)
    else
      (some 1))
set_option maxHeartbeats 4000000 in
set_option maxRecDepth 20000 in
theorem c_Sh_isLength (Z : ZX) {σ : Mem} {a0 : Int32} {r : Int32} (h : f_Sh_isLength a0 = some r) : CI Z 0 m_Sh_isLength [.int a0] σ r σ := by
  refine Ct.of (by decide +kernel) (Nat.le_of_ble_eq_true rfl) (fun Y => ?_)
  show V (mkB Z) Y m_Sh_isLength 0 (QP (mkB Z) Y nC 0 0 (fun v t => v = some (.int r) ∧ t = σ)) 0 0 nC σ 0 [(0, .int a0)] []
  unfold f_Sh_isLength at h
  refine V.iload_n d_Sh_isLength_0 rfl 0 rfl ?_
  refine V.iconst (v := 1) d_Sh_isLength_1 (by decide) ?_
  refine V.icmp_lt (tgt := 14) d_Sh_isLength_2 (by decide) (fun hc2 => ?_) (fun hc2 => ?_)
  · replace h := ite_t hc2 h
    refine V.iconst (v := 0) d_Sh_isLength_14 (by decide) ?_
    cases h
    exact V.zret rfl rfl d_Sh_isLength_15 ⟨rfl, rfl⟩
  · replace h := ite_f hc2 h
    refine V.iload_n d_Sh_isLength_5 rfl 0 rfl ?_
    refine V.iconst (v := 3) d_Sh_isLength_6 (by decide) ?_
    refine V.icmp_gt (tgt := 14) d_Sh_isLength_7 (by decide) (fun hc7 => ?_) (fun hc7 => ?_)
    · replace h := ite_t hc7 h
      refine V.iconst (v := 0) d_Sh_isLength_14 (by decide) ?_
      cases h
      exact V.zret rfl rfl d_Sh_isLength_15 ⟨rfl, rfl⟩
    · replace h := ite_f hc7 h
      refine V.iconst (v := 1) d_Sh_isLength_10 (by decide) ?_
      refine V.goto (tgt := 15) d_Sh_isLength_11 (by decide) ?_
      cases h
      exact V.zret rfl rfl d_Sh_isLength_15 ⟨rfl, rfl⟩
abbrev m_Sh_awning : MI := (⟨"ShadeTown", "awning", "(IIIII)I"⟩, prog_1_method_5_code, 6, (Option.some Jvm.ClassFile.FieldType.int))
theorem d_Sh_awning_0 : decode prog_1_method_5_code 0 = .ok (.iload_n 1, 1) := by decide +kernel
theorem d_Sh_awning_1 : decode prog_1_method_5_code 1 = .ok (.iload_n 2, 1) := by decide +kernel
theorem d_Sh_awning_2 : decode prog_1_method_5_code 2 = .ok (.invokestatic 119, 3) := by decide +kernel
theorem d_Sh_awning_33 : decode prog_1_method_5_code 33 = .ok (.iconst (-1), 1) := by decide +kernel
theorem d_Sh_awning_34 : decode prog_1_method_5_code 34 = .ok (.ireturn, 1) := by decide +kernel
theorem d_Sh_awning_8 : decode prog_1_method_5_code 8 = .ok (.iload_n 3, 1) := by decide +kernel
theorem d_Sh_awning_9 : decode prog_1_method_5_code 9 = .ok (.invokestatic 140, 3) := by decide +kernel
theorem k_Sh_isLength : MOk m_Sh_isLength 1 ∧ Cond.static m_Sh_isLength.1 ∈ tblG := ⟨⟨atG 732 (by decide +kernel) rfl, atG 111 (by decide +kernel) rfl, ⟨by decide, by decide⟩, by decide +kernel, by decide⟩, atG 731 (by decide +kernel) rfl⟩
theorem lk_Sh_140 : Cond.methodLink "ShadeTown" 140 ⟨"ShadeTown", "isLength", "(I)Z"⟩ ∈ tblG := atG 730 (by decide +kernel) rfl
theorem d_Sh_awning_15 : decode prog_1_method_5_code 15 = .ok (.iload 5, 2) := by decide +kernel
theorem d_Sh_awning_17 : decode prog_1_method_5_code 17 = .ok (.invokestatic 123, 3) := by decide +kernel
theorem d_Sh_awning_23 : decode prog_1_method_5_code 23 = .ok (.aload_n 0, 1) := by decide +kernel
theorem d_Sh_awning_24 : decode prog_1_method_5_code 24 = .ok (.getfield 38, 3) := by decide +kernel
theorem d_Sh_awning_27 : decode prog_1_method_5_code 27 = .ok (.invokevirtual 126, 3) := by decide +kernel
theorem d_Sh_awning_35 : decode prog_1_method_5_code 35 = .ok (.iload 4, 2) := by decide +kernel
theorem d_Sh_awning_46 : decode prog_1_method_5_code 46 = .ok (.iconst (-1), 1) := by decide +kernel
theorem d_Sh_awning_47 : decode prog_1_method_5_code 47 = .ok (.ireturn, 1) := by decide +kernel
theorem d_Sh_awning_40 : decode prog_1_method_5_code 40 = .ok (.iload 4, 2) := by decide +kernel
theorem d_Sh_awning_42 : decode prog_1_method_5_code 42 = .ok (.iconst 3, 1) := by decide +kernel
theorem d_Sh_awning_48 : decode prog_1_method_5_code 48 = .ok (.aload_n 0, 1) := by decide +kernel
theorem d_Sh_awning_49 : decode prog_1_method_5_code 49 = .ok (.getfield 54, 3) := by decide +kernel
theorem d_Sh_awning_52 : decode prog_1_method_5_code 52 = .ok (.invokevirtual 133, 3) := by decide +kernel
theorem d_Sh_awning_55 : decode prog_1_method_5_code 55 = .ok (.aload_n 0, 1) := by decide +kernel
theorem d_Sh_awning_56 : decode prog_1_method_5_code 56 = .ok (.getfield 38, 3) := by decide +kernel
theorem d_Sh_awning_59 : decode prog_1_method_5_code 59 = .ok (.iconst 2, 1) := by decide +kernel
theorem d_Sh_awning_60 : decode prog_1_method_5_code 60 = .ok (.bipush 12, 2) := by decide +kernel
theorem d_Sh_awning_62 : decode prog_1_method_5_code 62 = .ok (.iload_n 2, 1) := by decide +kernel
theorem d_Sh_awning_63 : decode prog_1_method_5_code 63 = .ok (.imul, 1) := by decide +kernel
theorem d_Sh_awning_64 : decode prog_1_method_5_code 64 = .ok (.iload_n 1, 1) := by decide +kernel
theorem d_Sh_awning_65 : decode prog_1_method_5_code 65 = .ok (.iadd, 1) := by decide +kernel
theorem d_Sh_awning_66 : decode prog_1_method_5_code 66 = .ok (.iload_n 3, 1) := by decide +kernel
theorem d_Sh_awning_67 : decode prog_1_method_5_code 67 = .ok (.iload 4, 2) := by decide +kernel
theorem d_Sh_awning_69 : decode prog_1_method_5_code 69 = .ok (.iload 5, 2) := by decide +kernel
theorem d_Sh_awning_71 : decode prog_1_method_5_code 71 = .ok (.invokevirtual 136, 3) := by decide +kernel
theorem d_Sh_awning_74 : decode prog_1_method_5_code 74 = .ok (.ireturn, 1) := by decide +kernel
theorem d_Sh_awning_43 : decode prog_1_method_5_code 43 = .ok (.if_icmp .le 5, 3) := by decide +kernel
theorem d_Sh_awning_37 : decode prog_1_method_5_code 37 = .ok (.ifCond .lt 9, 3) := by decide +kernel
theorem d_Sh_awning_30 : decode prog_1_method_5_code 30 = .ok (.ifCond .eq 5, 3) := by decide +kernel
theorem d_Sh_awning_20 : decode prog_1_method_5_code 20 = .ok (.ifCond .eq 13, 3) := by decide +kernel
theorem d_Sh_awning_12 : decode prog_1_method_5_code 12 = .ok (.ifCond .eq 21, 3) := by decide +kernel
theorem d_Sh_awning_5 : decode prog_1_method_5_code 5 = .ok (.ifCond .eq 28, 3) := by decide +kernel
def f_Sh_awning (σ : Mem) (a1 : Int32) (a2 : Int32) (a3 : Int32) (a4 : Int32) (a5 : Int32) : Option (Int32 × Mem) :=
  bnd1 (f_Sh_inTown a1 a2) fun r2 =>
  if r2 = 0 then
    (some ((-1), σ))
  else
    (bnd1 (f_Sh_isLength a3) fun r9 =>
    if r9 = 0 then
      (some ((-1), σ))
    else
      (bnd1 (f_Sh_isOwner a5) fun r17 =>
      if r17 = 0 then
        (some ((-1), σ))
      else
        (bnd1 (f_To_isFull σ) fun r27 =>
        if r27 = 0 then
          (if a4 < 0 then
            (some ((-1), σ))
          else
            (if a4 ≤ 3 then
              (bnd1 (f_Da_forgetShade σ) fun σ52 =>
              bnd2 (f_To_add σ52 2 ((12 * a2) + a1) a3 a4 a5) fun r71 σ71 =>
              some (r71, σ71))
            else
              (some ((-1), σ))))
        else
          (some ((-1), σ)))))
set_option maxHeartbeats 4000000 in
set_option maxRecDepth 20000 in
theorem c_Sh_awning (Z : ZX) {σ : Mem} {a1 : Int32} {a2 : Int32} {a3 : Int32} {a4 : Int32} {a5 : Int32} {r : Int32} {σ' : Mem} (h : f_Sh_awning σ a1 a2 a3 a4 a5 = some (r, σ')) : CI Z 1 m_Sh_awning [rf Z 0, .int a1, .int a2, .int a3, .int a4, .int a5] σ r σ' := by
  refine Ct.of (by decide +kernel) (Nat.le_of_ble_eq_true rfl) (fun Y => ?_)
  show V (mkB Z) Y m_Sh_awning 1 (QP (mkB Z) Y nC 0 0 (fun v t => v = some (.int r) ∧ t = σ')) 0 0 nC σ 0 [(0, rf Z 0), (1, .int a1), (2, .int a2), (3, .int a3), (4, .int a4), (5, .int a5)] []
  unfold f_Sh_awning at h
  refine V.iload_n d_Sh_awning_0 rfl 1 rfl ?_
  refine V.iload_n d_Sh_awning_1 rfl 2 rfl ?_
  obtain ⟨r2, h1, h⟩ := bnd1_e h
  refine V.sI (as := [.int a1, .int a2]) (st := []) (c_Sh_inTown Z h1) k_Sh_inTown lk_Sh_119 (by decide) rfl rfl (Nat.le_of_ble_eq_true rfl) d_Sh_awning_2 ?_
  refine V.if_eq (tgt := 33) d_Sh_awning_5 (by decide) (fun hc5 => ?_) (fun hc5 => ?_)
  · replace h := ite_t hc5 h
    refine V.iconst (v := (-1)) d_Sh_awning_33 (by decide) ?_
    cases h
    exact V.iret rfl d_Sh_awning_34 ⟨rfl, rfl⟩
  · replace h := ite_f hc5 h
    refine V.iload_n d_Sh_awning_8 rfl 3 rfl ?_
    obtain ⟨r9, h1, h⟩ := bnd1_e h
    refine V.sI (as := [.int a3]) (st := []) (c_Sh_isLength Z h1) k_Sh_isLength lk_Sh_140 (by decide) rfl rfl (Nat.le_of_ble_eq_true rfl) d_Sh_awning_9 ?_
    refine V.if_eq (tgt := 33) d_Sh_awning_12 (by decide) (fun hc12 => ?_) (fun hc12 => ?_)
    · replace h := ite_t hc12 h
      refine V.iconst (v := (-1)) d_Sh_awning_33 (by decide) ?_
      cases h
      exact V.iret rfl d_Sh_awning_34 ⟨rfl, rfl⟩
    · replace h := ite_f hc12 h
      refine V.iload d_Sh_awning_15 5 rfl ?_
      obtain ⟨r17, h1, h⟩ := bnd1_e h
      refine V.sI (as := [.int a5]) (st := []) (c_Sh_isOwner Z h1) k_Sh_isOwner lk_Sh_123 (by decide) rfl rfl (Nat.le_of_ble_eq_true rfl) d_Sh_awning_17 ?_
      refine V.if_eq (tgt := 33) d_Sh_awning_20 (by decide) (fun hc20 => ?_) (fun hc20 => ?_)
      · replace h := ite_t hc20 h
        refine V.iconst (v := (-1)) d_Sh_awning_33 (by decide) ?_
        cases h
        exact V.iret rfl d_Sh_awning_34 ⟨rfl, rfl⟩
      · replace h := ite_f hc20 h
        refine V.aload_n d_Sh_awning_23 rfl 0 rfl ?_
        refine V.getR (r := 19) ok_Sh fl_Sh_38 (by decide) (by decide) ly_0 rfl d_Sh_awning_24 ?_
        obtain ⟨r27, h1, h⟩ := bnd1_e h
        refine V.vI (as := []) (st := []) (c_To_isFull Z h1) k_To_isFull lk_Sh_126 (by decide) rfl (by decide) ly_19 ok_To.1 rfl (Nat.le_of_ble_eq_true rfl) d_Sh_awning_27 ?_
        refine V.if_eq (tgt := 35) d_Sh_awning_30 (by decide) (fun hc30 => ?_) (fun hc30 => ?_)
        · replace h := ite_t hc30 h
          refine V.iload d_Sh_awning_35 4 rfl ?_
          refine V.if_lt (tgt := 46) d_Sh_awning_37 (by decide) (fun hc37 => ?_) (fun hc37 => ?_)
          · replace h := ite_t hc37 h
            refine V.iconst (v := (-1)) d_Sh_awning_46 (by decide) ?_
            cases h
            exact V.iret rfl d_Sh_awning_47 ⟨rfl, rfl⟩
          · replace h := ite_f hc37 h
            refine V.iload d_Sh_awning_40 4 rfl ?_
            refine V.iconst (v := 3) d_Sh_awning_42 (by decide) ?_
            refine V.icmp_le (tgt := 48) d_Sh_awning_43 (by decide) (fun hc43 => ?_) (fun hc43 => ?_)
            · replace h := ite_t hc43 h
              refine V.aload_n d_Sh_awning_48 rfl 0 rfl ?_
              refine V.getR (r := 33) ok_Sh fl_Sh_54 (by decide) (by decide) ly_0 rfl d_Sh_awning_49 ?_
              obtain ⟨σ52, h1, h⟩ := bnd1_e h
              refine V.vN (as := []) (st := []) (c_Da_forgetShade Z h1) k_Da_forgetShade lk_Sh_133 (by decide) rfl (by decide) ly_33 ok_Da.1 rfl (Nat.le_of_ble_eq_true rfl) d_Sh_awning_52 ?_
              refine V.aload_n d_Sh_awning_55 rfl 0 rfl ?_
              refine V.getR (r := 19) ok_Sh fl_Sh_38 (by decide) (by decide) ly_0 rfl d_Sh_awning_56 ?_
              refine V.iconst (v := 2) d_Sh_awning_59 (by decide) ?_
              refine V.bipush (v := 12) d_Sh_awning_60 (by decide) ?_
              refine V.iload_n d_Sh_awning_62 rfl 2 rfl ?_
              refine V.imul d_Sh_awning_63 ?_
              refine V.iload_n d_Sh_awning_64 rfl 1 rfl ?_
              refine V.iadd d_Sh_awning_65 ?_
              refine V.iload_n d_Sh_awning_66 rfl 3 rfl ?_
              refine V.iload d_Sh_awning_67 4 rfl ?_
              refine V.iload d_Sh_awning_69 5 rfl ?_
              obtain ⟨r71, σ71, h1, h⟩ := bnd2_e h
              refine V.vI (as := [.int 2, .int ((12 * a2) + a1), .int a3, .int a4, .int a5]) (st := []) (c_To_add Z h1) k_To_add lk_Sh_136 (by decide) rfl (by decide) ly_19 ok_To.1 rfl (Nat.le_of_ble_eq_true rfl) d_Sh_awning_71 ?_
              cases h
              exact V.iret rfl d_Sh_awning_74 ⟨rfl, rfl⟩
            · replace h := ite_f hc43 h
              refine V.iconst (v := (-1)) d_Sh_awning_46 (by decide) ?_
              cases h
              exact V.iret rfl d_Sh_awning_47 ⟨rfl, rfl⟩
        · replace h := ite_f hc30 h
          refine V.iconst (v := (-1)) d_Sh_awning_33 (by decide) ?_
          cases h
          exact V.iret rfl d_Sh_awning_34 ⟨rfl, rfl⟩
abbrev m_To_takeDown : MI := (⟨"ShadeTown$Town", "takeDown", "(I)V"⟩, prog_9_method_10_code, 2, (Option.none : Option Jvm.ClassFile.FieldType))
theorem d_To_takeDown_0 : decode prog_9_method_10_code 0 = .ok (.aload_n 0, 1) := by decide +kernel
theorem d_To_takeDown_1 : decode prog_9_method_10_code 1 = .ok (.iload_n 1, 1) := by decide +kernel
theorem d_To_takeDown_2 : decode prog_9_method_10_code 2 = .ok (.invokevirtual 49, 3) := by decide +kernel
theorem d_To_takeDown_22 : decode prog_9_method_10_code 22 = .ok (.return_, 1) := by decide +kernel
theorem d_To_takeDown_8 : decode prog_9_method_10_code 8 = .ok (.aload_n 0, 1) := by decide +kernel
theorem d_To_takeDown_9 : decode prog_9_method_10_code 9 = .ok (.dup, 1) := by decide +kernel
theorem d_To_takeDown_10 : decode prog_9_method_10_code 10 = .ok (.getfield 34, 3) := by decide +kernel
theorem d_To_takeDown_13 : decode prog_9_method_10_code 13 = .ok (.iconst 1, 1) := by decide +kernel
theorem d_To_takeDown_14 : decode prog_9_method_10_code 14 = .ok (.iload_n 1, 1) := by decide +kernel
theorem d_To_takeDown_15 : decode prog_9_method_10_code 15 = .ok (.ishl, 1) := by decide +kernel
theorem d_To_takeDown_16 : decode prog_9_method_10_code 16 = .ok (.iconst (-1), 1) := by decide +kernel
theorem d_To_takeDown_17 : decode prog_9_method_10_code 17 = .ok (.ixor, 1) := by decide +kernel
theorem d_To_takeDown_18 : decode prog_9_method_10_code 18 = .ok (.iand, 1) := by decide +kernel
theorem d_To_takeDown_19 : decode prog_9_method_10_code 19 = .ok (.putfield 34, 3) := by decide +kernel
theorem d_To_takeDown_5 : decode prog_9_method_10_code 5 = .ok (.ifCond .eq 17, 3) := by decide +kernel
def f_To_takeDown (σ : Mem) (a1 : Int32) : Option (Mem) :=
  bnd1 (f_To_isCaster σ a1) fun r2 =>
  if r2 = 0 then
    (some σ)
  else
    (letv (sI σ 19 7 ((mI σ 19 7) &&& ((1 <<< (a1 &&& 31)) ^^^ (-1)))) fun σ19 =>
    some σ19)
set_option maxHeartbeats 4000000 in
set_option maxRecDepth 20000 in
theorem c_To_takeDown (Z : ZX) {σ : Mem} {a1 : Int32} {σ' : Mem} (h : f_To_takeDown σ a1 = some σ') : CN Z 1 m_To_takeDown [rf Z 19, .int a1] σ σ' := by
  refine Ct.of (by decide +kernel) (Nat.le_of_ble_eq_true rfl) (fun Y => ?_)
  show V (mkB Z) Y m_To_takeDown 1 (QP (mkB Z) Y nC 0 0 (fun v t => v = none ∧ t = σ')) 0 0 nC σ 0 [(0, rf Z 19), (1, .int a1)] []
  unfold f_To_takeDown at h
  refine V.aload_n d_To_takeDown_0 rfl 0 rfl ?_
  refine V.iload_n d_To_takeDown_1 rfl 1 rfl ?_
  obtain ⟨r2, h1, h⟩ := bnd1_e h
  refine V.vI (as := [.int a1]) (st := []) (c_To_isCaster Z h1) k_To_isCaster lk_To_49 (by decide) rfl (by decide) ly_19 ok_To.1 rfl (Nat.le_of_ble_eq_true rfl) d_To_takeDown_2 ?_
  refine V.if_eq (tgt := 22) d_To_takeDown_5 (by decide) (fun hc5 => ?_) (fun hc5 => ?_)
  · replace h := ite_t hc5 h
    cases h
    exact V.vret rfl d_To_takeDown_22 ⟨rfl, rfl⟩
  · replace h := ite_f hc5 h
    refine V.aload_n d_To_takeDown_8 rfl 0 rfl ?_
    refine V.dup d_To_takeDown_9 rfl ?_
    refine V.getI ok_To fl_To_34 (by decide) (by decide) ly_19 rfl d_To_takeDown_10 ?_
    refine V.iconst (v := 1) d_To_takeDown_13 (by decide) ?_
    refine V.iload_n d_To_takeDown_14 rfl 1 rfl ?_
    refine V.ishl d_To_takeDown_15 ?_
    refine V.iconst (v := (-1)) d_To_takeDown_16 (by decide) ?_
    refine V.ixor d_To_takeDown_17 ?_
    refine V.iand d_To_takeDown_18 ?_
    obtain ⟨σ19, e_σ19, h⟩ := letv_e h
    refine V.putI ok_To fl_To_34 (by decide) (by decide) ly_19 rfl rfl rfl rfl d_To_takeDown_19 (V.mem e_σ19 ?_)
    cases h
    exact V.vret rfl d_To_takeDown_22 ⟨rfl, rfl⟩
abbrev m_Sh_down : MI := (⟨"ShadeTown", "down", "(I)Z"⟩, prog_1_method_6_code, 2, (Option.some Jvm.ClassFile.FieldType.boolean))
theorem d_Sh_down_0 : decode prog_1_method_6_code 0 = .ok (.aload_n 0, 1) := by decide +kernel
theorem d_Sh_down_1 : decode prog_1_method_6_code 1 = .ok (.getfield 38, 3) := by decide +kernel
theorem d_Sh_down_4 : decode prog_1_method_6_code 4 = .ok (.iload_n 1, 1) := by decide +kernel
theorem d_Sh_down_5 : decode prog_1_method_6_code 5 = .ok (.invokevirtual 143, 3) := by decide +kernel
theorem lk_Sh_143 : Cond.methodLink "ShadeTown" 143 ⟨"ShadeTown$Town", "isStanding", "(I)Z"⟩ ∈ tblG := atG 737 (by decide +kernel) rfl
theorem d_Sh_down_13 : decode prog_1_method_6_code 13 = .ok (.aload_n 0, 1) := by decide +kernel
theorem d_Sh_down_14 : decode prog_1_method_6_code 14 = .ok (.getfield 38, 3) := by decide +kernel
theorem d_Sh_down_17 : decode prog_1_method_6_code 17 = .ok (.iload_n 1, 1) := by decide +kernel
theorem d_Sh_down_18 : decode prog_1_method_6_code 18 = .ok (.invokevirtual 146, 3) := by decide +kernel
theorem k_To_takeDown : MOk m_To_takeDown 1 ∧ IOk m_To_takeDown := ⟨⟨atG 741 (by decide +kernel) rfl, atG 115 (by decide +kernel) rfl, ⟨by decide, by decide⟩, by decide +kernel, by decide⟩, atG 739 (by decide +kernel) rfl, atG 740 (by decide +kernel) rfl⟩
theorem lk_Sh_146 : Cond.methodLink "ShadeTown" 146 ⟨"ShadeTown$Town", "takeDown", "(I)V"⟩ ∈ tblG := atG 738 (by decide +kernel) rfl
theorem d_Sh_down_21 : decode prog_1_method_6_code 21 = .ok (.aload_n 0, 1) := by decide +kernel
theorem d_Sh_down_22 : decode prog_1_method_6_code 22 = .ok (.getfield 54, 3) := by decide +kernel
theorem d_Sh_down_25 : decode prog_1_method_6_code 25 = .ok (.invokevirtual 133, 3) := by decide +kernel
theorem d_Sh_down_28 : decode prog_1_method_6_code 28 = .ok (.iconst 1, 1) := by decide +kernel
theorem d_Sh_down_29 : decode prog_1_method_6_code 29 = .ok (.ireturn, 1) := by decide +kernel
theorem d_Sh_down_11 : decode prog_1_method_6_code 11 = .ok (.iconst 0, 1) := by decide +kernel
theorem d_Sh_down_12 : decode prog_1_method_6_code 12 = .ok (.ireturn, 1) := by decide +kernel
theorem d_Sh_down_8 : decode prog_1_method_6_code 8 = .ok (.ifCond .ne 5, 3) := by decide +kernel
def f_Sh_down (σ : Mem) (a1 : Int32) : Option (Int32 × Mem) :=
  bnd1 (f_To_isStanding σ a1) fun r5 =>
  if r5 = 0 then
    (some (0, σ))
  else
    (bnd1 (f_To_takeDown σ a1) fun σ18 =>
    bnd1 (f_Da_forgetShade σ18) fun σ25 =>
    some (1, σ25))
set_option maxHeartbeats 4000000 in
set_option maxRecDepth 20000 in
theorem c_Sh_down (Z : ZX) {σ : Mem} {a1 : Int32} {r : Int32} {σ' : Mem} (h : f_Sh_down σ a1 = some (r, σ')) : CI Z 2 m_Sh_down [rf Z 0, .int a1] σ r σ' := by
  refine Ct.of (by decide +kernel) (Nat.le_of_ble_eq_true rfl) (fun Y => ?_)
  show V (mkB Z) Y m_Sh_down 2 (QP (mkB Z) Y nC 0 0 (fun v t => v = some (.int r) ∧ t = σ')) 0 0 nC σ 0 [(0, rf Z 0), (1, .int a1)] []
  unfold f_Sh_down at h
  refine V.aload_n d_Sh_down_0 rfl 0 rfl ?_
  refine V.getR (r := 19) ok_Sh fl_Sh_38 (by decide) (by decide) ly_0 rfl d_Sh_down_1 ?_
  refine V.iload_n d_Sh_down_4 rfl 1 rfl ?_
  obtain ⟨r5, h1, h⟩ := bnd1_e h
  refine V.vI (as := [.int a1]) (st := []) (c_To_isStanding Z h1) k_To_isStanding lk_Sh_143 (by decide) rfl (by decide) ly_19 ok_To.1 rfl (Nat.le_of_ble_eq_true rfl) d_Sh_down_5 ?_
  refine V.if_ne (tgt := 13) d_Sh_down_8 (by decide) (fun hc8 => ?_) (fun hc8 => ?_)
  · replace h := ite_f hc8 h
    refine V.aload_n d_Sh_down_13 rfl 0 rfl ?_
    refine V.getR (r := 19) ok_Sh fl_Sh_38 (by decide) (by decide) ly_0 rfl d_Sh_down_14 ?_
    refine V.iload_n d_Sh_down_17 rfl 1 rfl ?_
    obtain ⟨σ18, h1, h⟩ := bnd1_e h
    refine V.vN (as := [.int a1]) (st := []) (c_To_takeDown Z h1) k_To_takeDown lk_Sh_146 (by decide) rfl (by decide) ly_19 ok_To.1 rfl (Nat.le_of_ble_eq_true rfl) d_Sh_down_18 ?_
    refine V.aload_n d_Sh_down_21 rfl 0 rfl ?_
    refine V.getR (r := 33) ok_Sh fl_Sh_54 (by decide) (by decide) ly_0 rfl d_Sh_down_22 ?_
    obtain ⟨σ25, h1, h⟩ := bnd1_e h
    refine V.vN (as := []) (st := []) (c_Da_forgetShade Z h1) k_Da_forgetShade lk_Sh_133 (by decide) rfl (by decide) ly_33 ok_Da.1 rfl (Nat.le_of_ble_eq_true rfl) d_Sh_down_25 ?_
    refine V.iconst (v := 1) d_Sh_down_28 (by decide) ?_
    cases h
    exact V.zret rfl rfl d_Sh_down_29 ⟨rfl, rfl⟩
  · replace h := ite_t hc8 h
    refine V.iconst (v := 0) d_Sh_down_11 (by decide) ?_
    cases h
    exact V.zret rfl rfl d_Sh_down_12 ⟨rfl, rfl⟩
abbrev m_JA_fill_53178 : MI := (⟨"java/util/Arrays", "fill", "([II)V"⟩, prog_21_method_103_code, 4, (Option.none : Option Jvm.ClassFile.FieldType))
theorem d_JA_fill_53178_0 : decode prog_21_method_103_code 0 = .ok (.iconst 0, 1) := by decide +kernel
theorem d_JA_fill_53178_1 : decode prog_21_method_103_code 1 = .ok (.istore_n 2, 1) := by decide +kernel
theorem d_JA_fill_53178_2 : decode prog_21_method_103_code 2 = .ok (.aload_n 0, 1) := by decide +kernel
theorem d_JA_fill_53178_3 : decode prog_21_method_103_code 3 = .ok (.arraylength, 1) := by decide +kernel
theorem d_JA_fill_53178_4 : decode prog_21_method_103_code 4 = .ok (.istore_n 3, 1) := by decide +kernel
theorem d_JA_fill_53178_5 : decode prog_21_method_103_code 5 = .ok (.iload_n 2, 1) := by decide +kernel
theorem d_JA_fill_53178_6 : decode prog_21_method_103_code 6 = .ok (.iload_n 3, 1) := by decide +kernel
theorem d_JA_fill_53178_20 : decode prog_21_method_103_code 20 = .ok (.return_, 1) := by decide +kernel
theorem d_JA_fill_53178_10 : decode prog_21_method_103_code 10 = .ok (.aload_n 0, 1) := by decide +kernel
theorem d_JA_fill_53178_11 : decode prog_21_method_103_code 11 = .ok (.iload_n 2, 1) := by decide +kernel
theorem d_JA_fill_53178_12 : decode prog_21_method_103_code 12 = .ok (.iload_n 1, 1) := by decide +kernel
theorem d_JA_fill_53178_13 : decode prog_21_method_103_code 13 = .ok (.iastore, 1) := by decide +kernel
theorem d_JA_fill_53178_14 : decode prog_21_method_103_code 14 = .ok (.iinc 2 1, 3) := by decide +kernel
theorem d_JA_fill_53178_17 : decode prog_21_method_103_code 17 = .ok (.goto (-12), 3) := by decide +kernel
theorem d_JA_fill_53178_7 : decode prog_21_method_103_code 7 = .ok (.if_icmp .ge 13, 3) := by decide +kernel
def B_JA_fill_53178_l5 (N : Nat) (g0 n0 : Nat) (a1 : Int32) (a3 : Int32) (rec : Int32 → Mem → Option (Mem)) (x2 : Int32) (σ : Mem) : Option (Mem) :=
  if a3 ≤ x2 then
    (some σ)
  else
    (grd (inb x2 n0) <|
    letv (sI σ g0 (x2.toNatClampNeg) a1) fun σ13 =>
    letv (x2 + 1) fun v14 =>
    rec v14 σ13)
def L_JA_fill_53178_l5 (N : Nat) (g0 n0 : Nat) (a1 : Int32) (a3 : Int32) : Nat → Int32 → Mem → Option (Mem)
  | 0, _, _ => none
  | k + 1, x2, σ => B_JA_fill_53178_l5 N g0 n0 a1 a3 (L_JA_fill_53178_l5 N g0 n0 a1 a3 k) x2 σ
set_option maxHeartbeats 4000000 in
set_option maxRecDepth 20000 in
theorem cL_JA_fill_53178_l5 (Z : ZX) {Y : YX} {post : Option Value → Mem → Prop} {N : Nat} {g0 n0 : Nat} {a1 : Int32} {a3 : Int32} (hk0 : g0 < nC) (hy0 : lay1 g0 = .inl (.int, n0)) {Good : Mem → Prop} (hR : ∀ (σr : Mem), Good σr → post none σr) : ∀ (k : Nat) (x2 : Int32) (σ : Mem) (res : Mem), L_JA_fill_53178_l5 N g0 n0 a1 a3 k x2 σ = some res → Good res → V (mkB Z) Y m_JA_fill_53178 0 (QP (mkB Z) Y nC 0 0 post) 0 0 nC σ 5 [(0, rf Z g0), (1, .int a1), (2, .int x2), (3, .int a3)] [] := by
  intro k
  induction k with
  | zero => intro x2 σ res h; cases h
  | succ k ih =>
    intro x2 σ res h hg
    replace h : B_JA_fill_53178_l5 N g0 n0 a1 a3 (L_JA_fill_53178_l5 N g0 n0 a1 a3 k) x2 σ = some res := h
    unfold B_JA_fill_53178_l5 at h
    refine V.iload_n d_JA_fill_53178_5 rfl 2 rfl ?_
    refine V.iload_n d_JA_fill_53178_6 rfl 3 rfl ?_
    refine V.icmp_ge (tgt := 20) d_JA_fill_53178_7 (by decide) (fun hc7 => ?_) (fun hc7 => ?_)
    · replace h := ite_t hc7 h
      cases h
      exact V.vret rfl d_JA_fill_53178_20 (hR _ hg)
    · replace h := ite_f hc7 h
      refine V.aload_n d_JA_fill_53178_10 rfl 0 rfl ?_
      refine V.iload_n d_JA_fill_53178_11 rfl 2 rfl ?_
      refine V.iload_n d_JA_fill_53178_12 rfl 1 rfl ?_
      obtain ⟨gq, h⟩ := grd_e h
      obtain ⟨σ13, e_σ13, h⟩ := letv_e h
      refine V.wa hk0 hy0 (inb_e gq) rfl d_JA_fill_53178_13 e_σ13 ?_
      obtain ⟨v14, e_v14, h⟩ := letv_e h
      refine V.iinc (v := v14) (lv' := [(2, .int v14), (0, rf Z g0), (1, .int a1), (3, .int a3)]) d_JA_fill_53178_14 2 rfl (by rw [e_v14]; rfl) (by decide) rfl ?_
      refine V.goto (tgt := 5) d_JA_fill_53178_17 (by decide) ?_
      exact V.pick [1, 2, 0, 3] rfl (ih _ _ _ h hg)
def f_JA_fill_53178 (N : Nat) (σ : Mem) (g0 : Nat) (n0 : Nat) (a1 : Int32) : Option (Mem) :=
  letv (Int32.ofNat n0) fun v4 =>
  L_JA_fill_53178_l5 N g0 n0 a1 v4 N 0 σ
set_option maxHeartbeats 4000000 in
set_option maxRecDepth 20000 in
theorem c_JA_fill_53178 (Z : ZX) {N : Nat} {σ : Mem} {g0 : Nat} {n0 : Nat} {a1 : Int32} {σ' : Mem} (hk0 : g0 < nC) (hy0 : lay1 g0 = .inl (.int, n0)) (h : f_JA_fill_53178 N σ g0 n0 a1 = some σ') : CN Z 0 m_JA_fill_53178 [rf Z g0, .int a1] σ σ' := by
  refine Ct.of (by decide +kernel) (Nat.le_of_ble_eq_true rfl) (fun Y => ?_)
  show V (mkB Z) Y m_JA_fill_53178 0 (QP (mkB Z) Y nC 0 0 (fun v t => v = none ∧ t = σ')) 0 0 nC σ 0 [(0, rf Z g0), (1, .int a1)] []
  unfold f_JA_fill_53178 at h
  refine V.iconst (v := 0) d_JA_fill_53178_0 (by decide) ?_
  refine V.istore_n (lv' := [(2, .int 0), (0, rf Z g0), (1, .int a1)]) d_JA_fill_53178_1 rfl (by decide) rfl ?_
  refine V.aload_n d_JA_fill_53178_2 rfl 1 rfl ?_
  refine V.al (t := 0) (x := Int32.ofNat n0) hk0 hy0 rfl rfl d_JA_fill_53178_3 ?_
  obtain ⟨v4, e_v4, h⟩ := letv_e h
  refine V.topI e_v4 ?_
  refine V.istore_n (lv' := [(3, .int v4), (2, .int 0), (0, rf Z g0), (1, .int a1)]) d_JA_fill_53178_4 rfl (by decide) rfl ?_
  refine V.pick [2, 3, 1, 0] rfl (cL_JA_fill_53178_l5 Z hk0 hy0 (Good := fun z => z = _) (fun r5m he => ?_) N _ _ _ h rfl)
  · cases he
    exact ⟨rfl, rfl⟩
abbrev m_La_askHour : MI := (⟨"ShadeTown$Law", "askHour", "(II)V"⟩, prog_4_method_11_code, 3, (Option.none : Option Jvm.ClassFile.FieldType))
theorem d_La_askHour_0 : decode prog_4_method_11_code 0 = .ok (.aload_n 0, 1) := by decide +kernel
theorem fl_La_31 : FL "ShadeTown$Law" 31 T_La 6 := atG 166 (by decide +kernel) rfl
theorem d_La_askHour_1 : decode prog_4_method_11_code 1 = .ok (.getfield 31, 3) := by decide +kernel
theorem d_La_askHour_4 : decode prog_4_method_11_code 4 = .ok (.iconst 0, 1) := by decide +kernel
theorem d_La_askHour_5 : decode prog_4_method_11_code 5 = .ok (.invokestatic 47, 3) := by decide +kernel
theorem k_JA_fill_53178 : MOk m_JA_fill_53178 2 ∧ Cond.static m_JA_fill_53178.1 ∈ tblG := ⟨⟨atG 769 (by decide +kernel) rfl, atG 130 (by decide +kernel) rfl, ⟨by decide, by decide⟩, by decide +kernel, by decide⟩, atG 768 (by decide +kernel) rfl⟩
theorem lk_La_47 : Cond.methodLink "ShadeTown$Law" 47 ⟨"java/util/Arrays", "fill", "([II)V"⟩ ∈ tblG := atG 767 (by decide +kernel) rfl
theorem d_La_askHour_8 : decode prog_4_method_11_code 8 = .ok (.aload_n 0, 1) := by decide +kernel
theorem d_La_askHour_9 : decode prog_4_method_11_code 9 = .ok (.getfield 31, 3) := by decide +kernel
theorem d_La_askHour_12 : decode prog_4_method_11_code 12 = .ok (.iconst 0, 1) := by decide +kernel
theorem d_La_askHour_13 : decode prog_4_method_11_code 13 = .ok (.iload_n 1, 1) := by decide +kernel
theorem d_La_askHour_14 : decode prog_4_method_11_code 14 = .ok (.iastore, 1) := by decide +kernel
theorem d_La_askHour_15 : decode prog_4_method_11_code 15 = .ok (.aload_n 0, 1) := by decide +kernel
theorem d_La_askHour_16 : decode prog_4_method_11_code 16 = .ok (.getfield 31, 3) := by decide +kernel
theorem d_La_askHour_19 : decode prog_4_method_11_code 19 = .ok (.iconst 1, 1) := by decide +kernel
theorem d_La_askHour_20 : decode prog_4_method_11_code 20 = .ok (.iload_n 2, 1) := by decide +kernel
theorem d_La_askHour_21 : decode prog_4_method_11_code 21 = .ok (.iastore, 1) := by decide +kernel
theorem d_La_askHour_22 : decode prog_4_method_11_code 22 = .ok (.return_, 1) := by decide +kernel
def f_La_askHour (N : Nat) (σ : Mem) (a1 : Int32) (a2 : Int32) : Option (Mem) :=
  bnd1 (f_JA_fill_53178 N σ 8 9 0) fun σ5 =>
  letv (sI σ5 8 0 a1) fun σ14 =>
  letv (sI σ14 8 1 a2) fun σ21 =>
  some σ21
set_option maxHeartbeats 4000000 in
set_option maxRecDepth 20000 in
theorem c_La_askHour (Z : ZX) {N : Nat} {σ : Mem} {a1 : Int32} {a2 : Int32} {σ' : Mem} (h : f_La_askHour N σ a1 a2 = some σ') : CN Z 1 m_La_askHour [rf Z 3, .int a1, .int a2] σ σ' := by
  refine Ct.of (by decide +kernel) (Nat.le_of_ble_eq_true rfl) (fun Y => ?_)
  show V (mkB Z) Y m_La_askHour 1 (QP (mkB Z) Y nC 0 0 (fun v t => v = none ∧ t = σ')) 0 0 nC σ 0 [(0, rf Z 3), (1, .int a1), (2, .int a2)] []
  unfold f_La_askHour at h
  refine V.aload_n d_La_askHour_0 rfl 0 rfl ?_
  refine V.getR (r := 8) ok_La fl_La_31 (by decide) (by decide) ly_3 rfl d_La_askHour_1 ?_
  refine V.iconst (v := 0) d_La_askHour_4 (by decide) ?_
  obtain ⟨σ5, h1, h⟩ := bnd1_e h
  refine V.sN (as := [rf Z 8, .int 0]) (st := []) (c_JA_fill_53178 Z (by decide) ly_8 h1) k_JA_fill_53178 lk_La_47 (by decide) rfl rfl (Nat.le_of_ble_eq_true rfl) d_La_askHour_5 ?_
  refine V.aload_n d_La_askHour_8 rfl 0 rfl ?_
  refine V.getR (r := 8) ok_La fl_La_31 (by decide) (by decide) ly_3 rfl d_La_askHour_9 ?_
  refine V.iconst (v := 0) d_La_askHour_12 (by decide) ?_
  refine V.iload_n d_La_askHour_13 rfl 1 rfl ?_
  obtain ⟨σ14, e_σ14, h⟩ := letv_e h
  refine V.wa (by decide) ly_8 (inb_e (by decide)) (by decide) d_La_askHour_14 e_σ14 ?_
  refine V.aload_n d_La_askHour_15 rfl 0 rfl ?_
  refine V.getR (r := 8) ok_La fl_La_31 (by decide) (by decide) ly_3 rfl d_La_askHour_16 ?_
  refine V.iconst (v := 1) d_La_askHour_19 (by decide) ?_
  refine V.iload_n d_La_askHour_20 rfl 2 rfl ?_
  obtain ⟨σ21, e_σ21, h⟩ := letv_e h
  refine V.wa (by decide) ly_8 (inb_e (by decide)) (by decide) d_La_askHour_21 e_σ21 ?_
  cases h
  exact V.vret rfl d_La_askHour_22 ⟨rfl, rfl⟩
abbrev m_La_reckon : MI := (⟨"ShadeTown$Law", "reckon", "(III)I"⟩, prog_4_method_18_code, 3, (Option.some Jvm.ClassFile.FieldType.int))
theorem d_La_reckon_0 : decode prog_4_method_18_code 0 = .ok (.iload_n 0, 1) := by decide +kernel
theorem d_La_reckon_92 : decode prog_4_method_18_code 92 = .ok (.iload_n 2, 1) := by decide +kernel
theorem d_La_reckon_100 : decode prog_4_method_18_code 100 = .ok (.iload_n 1, 1) := by decide +kernel
theorem d_La_reckon_101 : decode prog_4_method_18_code 101 = .ok (.iload_n 2, 1) := by decide +kernel
theorem d_La_reckon_102 : decode prog_4_method_18_code 102 = .ok (.irem, 1) := by decide +kernel
theorem d_La_reckon_103 : decode prog_4_method_18_code 103 = .ok (.ireturn, 1) := by decide +kernel
theorem d_La_reckon_96 : decode prog_4_method_18_code 96 = .ok (.iconst 0, 1) := by decide +kernel
theorem d_La_reckon_97 : decode prog_4_method_18_code 97 = .ok (.goto 6, 3) := by decide +kernel
theorem d_La_reckon_93 : decode prog_4_method_18_code 93 = .ok (.ifCond .ne 7, 3) := by decide +kernel
theorem d_La_reckon_76 : decode prog_4_method_18_code 76 = .ok (.iload_n 1, 1) := by decide +kernel
theorem d_La_reckon_77 : decode prog_4_method_18_code 77 = .ok (.iload_n 2, 1) := by decide +kernel
theorem d_La_reckon_78 : decode prog_4_method_18_code 78 = .ok (.imul, 1) := by decide +kernel
theorem d_La_reckon_79 : decode prog_4_method_18_code 79 = .ok (.ireturn, 1) := by decide +kernel
theorem d_La_reckon_68 : decode prog_4_method_18_code 68 = .ok (.iload_n 1, 1) := by decide +kernel
theorem d_La_reckon_69 : decode prog_4_method_18_code 69 = .ok (.iload_n 2, 1) := by decide +kernel
theorem d_La_reckon_70 : decode prog_4_method_18_code 70 = .ok (.iadd, 1) := by decide +kernel
theorem d_La_reckon_71 : decode prog_4_method_18_code 71 = .ok (.ireturn, 1) := by decide +kernel
theorem d_La_reckon_72 : decode prog_4_method_18_code 72 = .ok (.iload_n 1, 1) := by decide +kernel
theorem d_La_reckon_73 : decode prog_4_method_18_code 73 = .ok (.iload_n 2, 1) := by decide +kernel
theorem d_La_reckon_74 : decode prog_4_method_18_code 74 = .ok (.isub, 1) := by decide +kernel
theorem d_La_reckon_75 : decode prog_4_method_18_code 75 = .ok (.ireturn, 1) := by decide +kernel
theorem d_La_reckon_80 : decode prog_4_method_18_code 80 = .ok (.iload_n 2, 1) := by decide +kernel
theorem d_La_reckon_88 : decode prog_4_method_18_code 88 = .ok (.iload_n 1, 1) := by decide +kernel
theorem d_La_reckon_89 : decode prog_4_method_18_code 89 = .ok (.iload_n 2, 1) := by decide +kernel
theorem d_La_reckon_90 : decode prog_4_method_18_code 90 = .ok (.idiv, 1) := by decide +kernel
theorem d_La_reckon_91 : decode prog_4_method_18_code 91 = .ok (.ireturn, 1) := by decide +kernel
theorem d_La_reckon_84 : decode prog_4_method_18_code 84 = .ok (.iconst 0, 1) := by decide +kernel
theorem d_La_reckon_85 : decode prog_4_method_18_code 85 = .ok (.goto 6, 3) := by decide +kernel
theorem d_La_reckon_81 : decode prog_4_method_18_code 81 = .ok (.ifCond .ne 7, 3) := by decide +kernel
theorem d_La_reckon_104 : decode prog_4_method_18_code 104 = .ok (.iload_n 1, 1) := by decide +kernel
theorem d_La_reckon_105 : decode prog_4_method_18_code 105 = .ok (.iload_n 2, 1) := by decide +kernel
theorem d_La_reckon_113 : decode prog_4_method_18_code 113 = .ok (.iconst 0, 1) := by decide +kernel
theorem d_La_reckon_114 : decode prog_4_method_18_code 114 = .ok (.ireturn, 1) := by decide +kernel
theorem d_La_reckon_109 : decode prog_4_method_18_code 109 = .ok (.iconst 1, 1) := by decide +kernel
theorem d_La_reckon_110 : decode prog_4_method_18_code 110 = .ok (.goto 4, 3) := by decide +kernel
theorem d_La_reckon_106 : decode prog_4_method_18_code 106 = .ok (.if_icmp .ge 7, 3) := by decide +kernel
theorem d_La_reckon_115 : decode prog_4_method_18_code 115 = .ok (.iload_n 1, 1) := by decide +kernel
theorem d_La_reckon_116 : decode prog_4_method_18_code 116 = .ok (.iload_n 2, 1) := by decide +kernel
theorem d_La_reckon_124 : decode prog_4_method_18_code 124 = .ok (.iconst 0, 1) := by decide +kernel
theorem d_La_reckon_125 : decode prog_4_method_18_code 125 = .ok (.ireturn, 1) := by decide +kernel
theorem d_La_reckon_120 : decode prog_4_method_18_code 120 = .ok (.iconst 1, 1) := by decide +kernel
theorem d_La_reckon_121 : decode prog_4_method_18_code 121 = .ok (.goto 4, 3) := by decide +kernel
theorem d_La_reckon_117 : decode prog_4_method_18_code 117 = .ok (.if_icmp .le 7, 3) := by decide +kernel
theorem d_La_reckon_126 : decode prog_4_method_18_code 126 = .ok (.iload_n 1, 1) := by decide +kernel
theorem d_La_reckon_127 : decode prog_4_method_18_code 127 = .ok (.iload_n 2, 1) := by decide +kernel
theorem d_La_reckon_135 : decode prog_4_method_18_code 135 = .ok (.iconst 0, 1) := by decide +kernel
theorem d_La_reckon_136 : decode prog_4_method_18_code 136 = .ok (.ireturn, 1) := by decide +kernel
theorem d_La_reckon_131 : decode prog_4_method_18_code 131 = .ok (.iconst 1, 1) := by decide +kernel
theorem d_La_reckon_132 : decode prog_4_method_18_code 132 = .ok (.goto 4, 3) := by decide +kernel
theorem d_La_reckon_128 : decode prog_4_method_18_code 128 = .ok (.if_icmp .ne 7, 3) := by decide +kernel
theorem d_La_reckon_1 : decode prog_4_method_18_code 1 = .ok (.lookupswitch 125 #[(37, 91), (42, 75), (43, 67), (45, 71), (47, 79), (60, 103), (62, 114)], 67) := by decide +kernel
def f_La_reckon (a0 : Int32) (a1 : Int32) (a2 : Int32) : Option (Int32) :=
  if a0 = 37 then
    (if a2 = 0 then
      (some 0)
    else
      (grd (decide (¬ a2 = 0)) <|
      some (a1 - a1 / a2 * a2)))
  else
  if a0 = 42 then
    (some (a1 * a2))
  else
  if a0 = 43 then
    (some (a1 + a2))
  else
  if a0 = 45 then
    (some (a1 - a2))
  else
  if a0 = 47 then
    (if a2 = 0 then
      (some 0)
    else
      (grd (decide (¬ a2 = 0)) <|
      some (a1 / a2)))
  else
  if a0 = 60 then
    (if a2 ≤ a1 then
      (some 0)
    else
      (some 1))
  else
  if a0 = 62 then
    (if a1 ≤ a2 then
      (some 0)
    else
      (some 1))
  else
  (if a1 = a2 then
    (some 1)
  else
    (some 0))
set_option maxHeartbeats 4000000 in
set_option maxRecDepth 20000 in
theorem c_La_reckon (Z : ZX) {σ : Mem} {a0 : Int32} {a1 : Int32} {a2 : Int32} {r : Int32} (h : f_La_reckon a0 a1 a2 = some r) : CI Z 0 m_La_reckon [.int a0, .int a1, .int a2] σ r σ := by
  refine Ct.of (by decide +kernel) (Nat.le_of_ble_eq_true rfl) (fun Y => ?_)
  show V (mkB Z) Y m_La_reckon 0 (QP (mkB Z) Y nC 0 0 (fun v t => v = some (.int r) ∧ t = σ)) 0 0 nC σ 0 [(0, .int a0), (1, .int a1), (2, .int a2)] []
  unfold f_La_reckon at h
  refine V.iload_n d_La_reckon_0 rfl 0 rfl ?_
  by_cases hs1_0 : a0 = 37
  · replace h := ite_t hs1_0 h
    refine V.lsw (off := 91) (tgt := 92) d_La_reckon_1 (by decide) (by rw [hs1_0]; decide) (by decide) ?_
    refine V.iload_n d_La_reckon_92 rfl 2 rfl ?_
    refine V.if_ne (tgt := 100) d_La_reckon_93 (by decide) (fun hc93 => ?_) (fun hc93 => ?_)
    · replace h := ite_f hc93 h
      refine V.iload_n d_La_reckon_100 rfl 1 rfl ?_
      refine V.iload_n d_La_reckon_101 rfl 2 rfl ?_
      obtain ⟨gq, h⟩ := grd_e h
      refine V.irem d_La_reckon_102 (of_decide_eq_true gq) ?_
      cases h
      exact V.iret rfl d_La_reckon_103 ⟨rfl, rfl⟩
    · replace h := ite_t hc93 h
      refine V.iconst (v := 0) d_La_reckon_96 (by decide) ?_
      refine V.goto (tgt := 103) d_La_reckon_97 (by decide) ?_
      cases h
      exact V.iret rfl d_La_reckon_103 ⟨rfl, rfl⟩
  · replace h := ite_f hs1_0 h
    by_cases hs1_1 : a0 = 42
    · replace h := ite_t hs1_1 h
      refine V.lsw (off := 75) (tgt := 76) d_La_reckon_1 (by decide) (by rw [hs1_1]; decide) (by decide) ?_
      refine V.iload_n d_La_reckon_76 rfl 1 rfl ?_
      refine V.iload_n d_La_reckon_77 rfl 2 rfl ?_
      refine V.imul d_La_reckon_78 ?_
      cases h
      exact V.iret rfl d_La_reckon_79 ⟨rfl, rfl⟩
    · replace h := ite_f hs1_1 h
      by_cases hs1_2 : a0 = 43
      · replace h := ite_t hs1_2 h
        refine V.lsw (off := 67) (tgt := 68) d_La_reckon_1 (by decide) (by rw [hs1_2]; decide) (by decide) ?_
        refine V.iload_n d_La_reckon_68 rfl 1 rfl ?_
        refine V.iload_n d_La_reckon_69 rfl 2 rfl ?_
        refine V.iadd d_La_reckon_70 ?_
        cases h
        exact V.iret rfl d_La_reckon_71 ⟨rfl, rfl⟩
      · replace h := ite_f hs1_2 h
        by_cases hs1_3 : a0 = 45
        · replace h := ite_t hs1_3 h
          refine V.lsw (off := 71) (tgt := 72) d_La_reckon_1 (by decide) (by rw [hs1_3]; decide) (by decide) ?_
          refine V.iload_n d_La_reckon_72 rfl 1 rfl ?_
          refine V.iload_n d_La_reckon_73 rfl 2 rfl ?_
          refine V.isub d_La_reckon_74 ?_
          cases h
          exact V.iret rfl d_La_reckon_75 ⟨rfl, rfl⟩
        · replace h := ite_f hs1_3 h
          by_cases hs1_4 : a0 = 47
          · replace h := ite_t hs1_4 h
            refine V.lsw (off := 79) (tgt := 80) d_La_reckon_1 (by decide) (by rw [hs1_4]; decide) (by decide) ?_
            refine V.iload_n d_La_reckon_80 rfl 2 rfl ?_
            refine V.if_ne (tgt := 88) d_La_reckon_81 (by decide) (fun hc81 => ?_) (fun hc81 => ?_)
            · replace h := ite_f hc81 h
              refine V.iload_n d_La_reckon_88 rfl 1 rfl ?_
              refine V.iload_n d_La_reckon_89 rfl 2 rfl ?_
              obtain ⟨gq, h⟩ := grd_e h
              refine V.idiv d_La_reckon_90 (of_decide_eq_true gq) ?_
              cases h
              exact V.iret rfl d_La_reckon_91 ⟨rfl, rfl⟩
            · replace h := ite_t hc81 h
              refine V.iconst (v := 0) d_La_reckon_84 (by decide) ?_
              refine V.goto (tgt := 91) d_La_reckon_85 (by decide) ?_
              cases h
              exact V.iret rfl d_La_reckon_91 ⟨rfl, rfl⟩
          · replace h := ite_f hs1_4 h
            by_cases hs1_5 : a0 = 60
            · replace h := ite_t hs1_5 h
              refine V.lsw (off := 103) (tgt := 104) d_La_reckon_1 (by decide) (by rw [hs1_5]; decide) (by decide) ?_
              refine V.iload_n d_La_reckon_104 rfl 1 rfl ?_
              refine V.iload_n d_La_reckon_105 rfl 2 rfl ?_
              refine V.icmp_ge (tgt := 113) d_La_reckon_106 (by decide) (fun hc106 => ?_) (fun hc106 => ?_)
              · replace h := ite_t hc106 h
                refine V.iconst (v := 0) d_La_reckon_113 (by decide) ?_
                cases h
                exact V.iret rfl d_La_reckon_114 ⟨rfl, rfl⟩
              · replace h := ite_f hc106 h
                refine V.iconst (v := 1) d_La_reckon_109 (by decide) ?_
                refine V.goto (tgt := 114) d_La_reckon_110 (by decide) ?_
                cases h
                exact V.iret rfl d_La_reckon_114 ⟨rfl, rfl⟩
            · replace h := ite_f hs1_5 h
              by_cases hs1_6 : a0 = 62
              · replace h := ite_t hs1_6 h
                refine V.lsw (off := 114) (tgt := 115) d_La_reckon_1 (by decide) (by rw [hs1_6]; decide) (by decide) ?_
                refine V.iload_n d_La_reckon_115 rfl 1 rfl ?_
                refine V.iload_n d_La_reckon_116 rfl 2 rfl ?_
                refine V.icmp_le (tgt := 124) d_La_reckon_117 (by decide) (fun hc117 => ?_) (fun hc117 => ?_)
                · replace h := ite_t hc117 h
                  refine V.iconst (v := 0) d_La_reckon_124 (by decide) ?_
                  cases h
                  exact V.iret rfl d_La_reckon_125 ⟨rfl, rfl⟩
                · replace h := ite_f hc117 h
                  refine V.iconst (v := 1) d_La_reckon_120 (by decide) ?_
                  refine V.goto (tgt := 125) d_La_reckon_121 (by decide) ?_
                  cases h
                  exact V.iret rfl d_La_reckon_125 ⟨rfl, rfl⟩
              · replace h := ite_f hs1_6 h
                refine V.lsw (off := 125) (tgt := 126) d_La_reckon_1 (by decide) (by show Op.lookupswitch.offset [(37, 91), (42, 75), (43, 67), (45, 71), (47, 79), (60, 103), (62, 114)] _ _ = _; rw [lv_osw hs1_0 (by decide), lv_osw hs1_1 (by decide), lv_osw hs1_2 (by decide), lv_osw hs1_3 (by decide), lv_osw hs1_4 (by decide), lv_osw hs1_5 (by decide), lv_osw hs1_6 (by decide)]; rfl) (by decide) ?_
                refine V.iload_n d_La_reckon_126 rfl 1 rfl ?_
                refine V.iload_n d_La_reckon_127 rfl 2 rfl ?_
                refine V.icmp_ne (tgt := 135) d_La_reckon_128 (by decide) (fun hc128 => ?_) (fun hc128 => ?_)
                · replace h := ite_f hc128 h
                  refine V.iconst (v := 0) d_La_reckon_135 (by decide) ?_
                  cases h
                  exact V.iret rfl d_La_reckon_136 ⟨rfl, rfl⟩
                · replace h := ite_t hc128 h
                  refine V.iconst (v := 1) d_La_reckon_131 (by decide) ?_
                  refine V.goto (tgt := 136) d_La_reckon_132 (by decide) ?_
                  cases h
                  exact V.iret rfl d_La_reckon_136 ⟨rfl, rfl⟩
