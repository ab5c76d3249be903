abbrev m_Ta_hasRoomFor : MI := (⟨"ShadeTown$Tape", "hasRoomFor", "(I)Z"⟩, prog_8_method_2_code, 2, (Option.some Jvm.ClassFile.FieldType.boolean))
theorem d_Ta_hasRoomFor_0 : decode prog_8_method_2_code 0 = .ok (.aload_n 0, 1) := by decide +kernel
theorem fl_Ta_15 : FL "ShadeTown$Tape" 15 T_Ta 1 := atG 147 (by decide +kernel) rfl
theorem d_Ta_hasRoomFor_1 : decode prog_8_method_2_code 1 = .ok (.getfield 15, 3) := by decide +kernel
theorem d_Ta_hasRoomFor_4 : decode prog_8_method_2_code 4 = .ok (.iload_n 1, 1) := by decide +kernel
theorem d_Ta_hasRoomFor_5 : decode prog_8_method_2_code 5 = .ok (.iadd, 1) := by decide +kernel
theorem d_Ta_hasRoomFor_6 : decode prog_8_method_2_code 6 = .ok (.sipush 260, 3) := by decide +kernel
theorem d_Ta_hasRoomFor_16 : decode prog_8_method_2_code 16 = .ok (.iconst 0, 1) := by decide +kernel
theorem d_Ta_hasRoomFor_17 : decode prog_8_method_2_code 17 = .ok (.ireturn, 1) := by decide +kernel
theorem d_Ta_hasRoomFor_12 : decode prog_8_method_2_code 12 = .ok (.iconst 1, 1) := by decide +kernel
theorem d_Ta_hasRoomFor_13 : decode prog_8_method_2_code 13 = .ok (.goto 4, 3) := by decide +kernel
theorem d_Ta_hasRoomFor_9 : decode prog_8_method_2_code 9 = .ok (.if_icmp .gt 7, 3) := by decide +kernel
def f_Ta_hasRoomFor (σ : Mem) (a1 : Int32) : Option (Int32) :=
  if 260 < (mI σ 1 1) + a1 then
    (some 0)
  else
    (some 1)
set_option maxHeartbeats 4000000 in
set_option maxRecDepth 20000 in
theorem c_Ta_hasRoomFor (Z : ZX) {σ : Mem} {a1 : Int32} {r : Int32} (h : f_Ta_hasRoomFor σ a1 = some r) : CI Z 0 m_Ta_hasRoomFor [rf Z 1, .int a1] σ r σ := by
  refine Ct.of (by decide +kernel) (Nat.le_of_ble_eq_true rfl) (fun Y => ?_)
  show V (mkB Z) Y m_Ta_hasRoomFor 0 (QP (mkB Z) Y nC 0 0 (fun v t => v = some (.int r) ∧ t = σ)) 0 0 nC σ 0 [(0, rf Z 1), (1, .int a1)] []
  unfold f_Ta_hasRoomFor at h
  refine V.aload_n d_Ta_hasRoomFor_0 rfl 0 rfl ?_
  refine V.getI ok_Ta fl_Ta_15 (by decide) (by decide) ly_1 rfl d_Ta_hasRoomFor_1 ?_
  refine V.iload_n d_Ta_hasRoomFor_4 rfl 1 rfl ?_
  refine V.iadd d_Ta_hasRoomFor_5 ?_
  refine V.sipush (v := 260) d_Ta_hasRoomFor_6 (by decide) ?_
  refine V.icmp_gt (tgt := 16) d_Ta_hasRoomFor_9 (by decide) (fun hc9 => ?_) (fun hc9 => ?_)
  · replace h := ite_t hc9 h
    refine V.iconst (v := 0) d_Ta_hasRoomFor_16 (by decide) ?_
    cases h
    exact V.zret rfl rfl d_Ta_hasRoomFor_17 ⟨rfl, rfl⟩
  · replace h := ite_f hc9 h
    refine V.iconst (v := 1) d_Ta_hasRoomFor_12 (by decide) ?_
    refine V.goto (tgt := 17) d_Ta_hasRoomFor_13 (by decide) ?_
    cases h
    exact V.zret rfl rfl d_Ta_hasRoomFor_17 ⟨rfl, rfl⟩
abbrev m_Ta_addInt : MI := (⟨"ShadeTown$Tape", "addInt", "(I)V"⟩, prog_8_method_3_code, 3, (Option.none : Option Jvm.ClassFile.FieldType))
theorem d_Ta_addInt_0 : decode prog_8_method_3_code 0 = .ok (.bipush 24, 2) := by decide +kernel
theorem d_Ta_addInt_2 : decode prog_8_method_3_code 2 = .ok (.istore_n 2, 1) := by decide +kernel
theorem d_Ta_addInt_3 : decode prog_8_method_3_code 3 = .ok (.iload_n 2, 1) := by decide +kernel
theorem d_Ta_addInt_49 : decode prog_8_method_3_code 49 = .ok (.return_, 1) := by decide +kernel
theorem d_Ta_addInt_7 : decode prog_8_method_3_code 7 = .ok (.aload_n 0, 1) := by decide +kernel
theorem d_Ta_addInt_8 : decode prog_8_method_3_code 8 = .ok (.getfield 15, 3) := by decide +kernel
theorem d_Ta_addInt_11 : decode prog_8_method_3_code 11 = .ok (.sipush 260, 3) := by decide +kernel
theorem d_Ta_addInt_17 : decode prog_8_method_3_code 17 = .ok (.aload_n 0, 1) := by decide +kernel
theorem fl_Ta_11 : FL "ShadeTown$Tape" 11 T_Ta 0 := atG 146 (by decide +kernel) rfl
theorem d_Ta_addInt_18 : decode prog_8_method_3_code 18 = .ok (.getfield 11, 3) := by decide +kernel
theorem d_Ta_addInt_21 : decode prog_8_method_3_code 21 = .ok (.aload_n 0, 1) := by decide +kernel
theorem d_Ta_addInt_22 : decode prog_8_method_3_code 22 = .ok (.getfield 15, 3) := by decide +kernel
theorem d_Ta_addInt_25 : decode prog_8_method_3_code 25 = .ok (.iload_n 1, 1) := by decide +kernel
theorem d_Ta_addInt_26 : decode prog_8_method_3_code 26 = .ok (.iload_n 2, 1) := by decide +kernel
theorem d_Ta_addInt_27 : decode prog_8_method_3_code 27 = .ok (.ishr, 1) := by decide +kernel
theorem d_Ta_addInt_28 : decode prog_8_method_3_code 28 = .ok (.sipush 255, 3) := by decide +kernel
theorem d_Ta_addInt_31 : decode prog_8_method_3_code 31 = .ok (.iand, 1) := by decide +kernel
theorem d_Ta_addInt_32 : decode prog_8_method_3_code 32 = .ok (.iastore, 1) := by decide +kernel
theorem d_Ta_addInt_33 : decode prog_8_method_3_code 33 = .ok (.aload_n 0, 1) := by decide +kernel
theorem d_Ta_addInt_34 : decode prog_8_method_3_code 34 = .ok (.dup, 1) := by decide +kernel
theorem d_Ta_addInt_35 : decode prog_8_method_3_code 35 = .ok (.getfield 15, 3) := by decide +kernel
theorem d_Ta_addInt_38 : decode prog_8_method_3_code 38 = .ok (.iconst 1, 1) := by decide +kernel
theorem d_Ta_addInt_39 : decode prog_8_method_3_code 39 = .ok (.iadd, 1) := by decide +kernel
theorem d_Ta_addInt_40 : decode prog_8_method_3_code 40 = .ok (.putfield 15, 3) := by decide +kernel
theorem d_Ta_addInt_14 : decode prog_8_method_3_code 14 = .ok (.if_icmp .ge 29, 3) := by decide +kernel
theorem d_Ta_addInt_43 : decode prog_8_method_3_code 43 = .ok (.iinc 2 (-8), 3) := by decide +kernel
theorem d_Ta_addInt_46 : decode prog_8_method_3_code 46 = .ok (.goto (-43), 3) := by decide +kernel
theorem d_Ta_addInt_4 : decode prog_8_method_3_code 4 = .ok (.ifCond .lt 45, 3) := by decide +kernel
def B_Ta_addInt_l3 (N : Nat) (a1 : Int32) (rec : Int32 → Mem → Option (Mem)) (x2 : Int32) (σ : Mem) : Option (Mem) :=
  if x2 < 0 then
    (some σ)
  else
    (bnd1 ((
      if 260 ≤ (mI σ 1 1) then
        (some σ)
      else
        (grd (inb (mI σ 1 1) 260) <|
        letv (sI σ 2 ((mI σ 1 1).toNatClampNeg) ((a1 >>> (x2 &&& 31)) &&& 255)) fun σ32 =>
        letv (sI σ32 1 1 ((mI σ32 1 1) + 1)) fun σ40 =>
        some σ40)) : Option (Mem)) fun σ14_ =>
    letv (x2 + (-8)) fun v43 =>
    rec v43 σ14_)
def L_Ta_addInt_l3 (N : Nat) (a1 : Int32) : Nat → Int32 → Mem → Option (Mem)
  | 0, _, _ => none
  | k + 1, x2, σ => B_Ta_addInt_l3 N a1 (L_Ta_addInt_l3 N a1 k) x2 σ
set_option maxHeartbeats 4000000 in
set_option maxRecDepth 20000 in
theorem cL_Ta_addInt_l3 (Z : ZX) {Y : YX} {post : Option Value → Mem → Prop} {N : Nat} {a1 : Int32} {Good : Mem → Prop} (hR : ∀ (σr : Mem), Good σr → post none σr) : ∀ (k : Nat) (x2 : Int32) (σ : Mem) (res : Mem), L_Ta_addInt_l3 N a1 k x2 σ = some res → Good res → V (mkB Z) Y m_Ta_addInt 0 (QP (mkB Z) Y nC 0 0 post) 0 0 nC σ 3 [(0, rf Z 1), (1, .int a1), (2, .int x2)] [] := by
  intro k
  induction k with
  | zero => intro x2 σ res h; cases h
  | succ k ih =>
    intro x2 σ res h hg
    replace h : B_Ta_addInt_l3 N a1 (L_Ta_addInt_l3 N a1 k) x2 σ = some res := h
    unfold B_Ta_addInt_l3 at h
    refine V.iload_n d_Ta_addInt_3 rfl 2 rfl ?_
    refine V.if_lt (tgt := 49) d_Ta_addInt_4 (by decide) (fun hc4 => ?_) (fun hc4 => ?_)
    · replace h := ite_t hc4 h
      cases h
      exact V.vret rfl d_Ta_addInt_49 (hR _ hg)
    · replace h := ite_f hc4 h
      refine V.aload_n d_Ta_addInt_7 rfl 0 rfl ?_
      refine V.getI ok_Ta fl_Ta_15 (by decide) (by decide) ly_1 rfl d_Ta_addInt_8 ?_
      refine V.sipush (v := 260) d_Ta_addInt_11 (by decide) ?_
      obtain ⟨s14, h1, h⟩ := bnd1_e h
      have J14_43 : ∀ (σ14_ : Mem), s14 = σ14_ → V (mkB Z) Y m_Ta_addInt 0 (QP (mkB Z) Y nC 0 0 post) 0 0 nC σ14_ 43 [(0, rf Z 1), (1, .int a1), (2, .int x2)] [] := by
        intro σ14_ he
        rw [he] at h
        obtain ⟨v43, e_v43, h⟩ := letv_e h
        refine V.iinc (v := v43) (lv' := [(2, .int v43), (0, rf Z 1), (1, .int a1)]) d_Ta_addInt_43 2 rfl (by rw [e_v43]; rfl) (by decide) rfl ?_
        refine V.goto (tgt := 3) d_Ta_addInt_46 (by decide) ?_
        exact V.pick [1, 2, 0] rfl (ih _ _ _ h hg)
      replace h := h1
      refine V.icmp_ge (tgt := 43) d_Ta_addInt_14 (by decide) (fun hc14 => ?_) (fun hc14 => ?_)
      · replace h := ite_t hc14 h
        exact V.pick [0, 1, 2] rfl (J14_43 _ (Option.some.inj h).symm)
      · replace h := ite_f hc14 h
        refine V.aload_n d_Ta_addInt_17 rfl 0 rfl ?_
        refine V.getR (r := 2) ok_Ta fl_Ta_11 (by decide) (by decide) ly_1 rfl d_Ta_addInt_18 ?_
        refine V.aload_n d_Ta_addInt_21 rfl 0 rfl ?_
        refine V.getI ok_Ta fl_Ta_15 (by decide) (by decide) ly_1 rfl d_Ta_addInt_22 ?_
        refine V.iload_n d_Ta_addInt_25 rfl 1 rfl ?_
        refine V.iload_n d_Ta_addInt_26 rfl 2 rfl ?_
        refine V.ishr d_Ta_addInt_27 ?_
        refine V.sipush (v := 255) d_Ta_addInt_28 (by decide) ?_
        refine V.iand d_Ta_addInt_31 ?_
        obtain ⟨gq, h⟩ := grd_e h
        obtain ⟨σ32, e_σ32, h⟩ := letv_e h
        refine V.wa (by decide) ly_2 (inb_e gq) rfl d_Ta_addInt_32 e_σ32 ?_
        refine V.aload_n d_Ta_addInt_33 rfl 0 rfl ?_
        refine V.dup d_Ta_addInt_34 rfl ?_
        refine V.getI ok_Ta fl_Ta_15 (by decide) (by decide) ly_1 rfl d_Ta_addInt_35 ?_
        refine V.iconst (v := 1) d_Ta_addInt_38 (by decide) ?_
        refine V.iadd d_Ta_addInt_39 ?_
        obtain ⟨σ40, e_σ40, h⟩ := letv_e h
        refine V.putI ok_Ta fl_Ta_15 (by decide) (by decide) ly_1 rfl rfl rfl rfl d_Ta_addInt_40 (V.mem e_σ40 ?_)
        exact V.pick [0, 1, 2] rfl (J14_43 _ (Option.some.inj h).symm)
def f_Ta_addInt (N : Nat) (σ : Mem) (a1 : Int32) : Option (Mem) :=
  L_Ta_addInt_l3 N a1 N 24 σ
set_option maxHeartbeats 4000000 in
set_option maxRecDepth 20000 in
theorem c_Ta_addInt (Z : ZX) {N : Nat} {σ : Mem} {a1 : Int32} {σ' : Mem} (h : f_Ta_addInt N σ a1 = some σ') : CN Z 0 m_Ta_addInt [rf Z 1, .int a1] σ σ' := by
  refine Ct.of (by decide +kernel) (Nat.le_of_ble_eq_true rfl) (fun Y => ?_)
  show V (mkB Z) Y m_Ta_addInt 0 (QP (mkB Z) Y nC 0 0 (fun v t => v = none ∧ t = σ')) 0 0 nC σ 0 [(0, rf Z 1), (1, .int a1)] []
  unfold f_Ta_addInt at h
  refine V.bipush (v := 24) d_Ta_addInt_0 (by decide) ?_
  refine V.istore_n (lv' := [(2, .int 24), (0, rf Z 1), (1, .int a1)]) d_Ta_addInt_2 rfl (by decide) rfl ?_
  refine V.pick [1, 2, 0] rfl (cL_Ta_addInt_l3 Z (Good := fun z => z = _) (fun r3m he => ?_) N _ _ _ h rfl)
  · cases he
    exact ⟨rfl, rfl⟩
abbrev m_Ta_length : MI := (⟨"ShadeTown$Tape", "length", "()I"⟩, prog_8_method_4_code, 1, (Option.some Jvm.ClassFile.FieldType.int))
theorem d_Ta_length_0 : decode prog_8_method_4_code 0 = .ok (.aload_n 0, 1) := by decide +kernel
theorem d_Ta_length_1 : decode prog_8_method_4_code 1 = .ok (.getfield 15, 3) := by decide +kernel
theorem d_Ta_length_4 : decode prog_8_method_4_code 4 = .ok (.ireturn, 1) := by decide +kernel
def f_Ta_length (σ : Mem) : Option (Int32) :=
  some (mI σ 1 1)
set_option maxHeartbeats 4000000 in
set_option maxRecDepth 20000 in
theorem c_Ta_length (Z : ZX) {σ : Mem} {r : Int32} (h : f_Ta_length σ = some r) : CI Z 0 m_Ta_length [rf Z 1] σ r σ := by
  refine Ct.of (by decide +kernel) (Nat.le_of_ble_eq_true rfl) (fun Y => ?_)
  show V (mkB Z) Y m_Ta_length 0 (QP (mkB Z) Y nC 0 0 (fun v t => v = some (.int r) ∧ t = σ)) 0 0 nC σ 0 [(0, rf Z 1)] []
  unfold f_Ta_length at h
  refine V.aload_n d_Ta_length_0 rfl 0 rfl ?_
  refine V.getI ok_Ta fl_Ta_15 (by decide) (by decide) ly_1 rfl d_Ta_length_1 ?_
  cases h
  exact V.iret rfl d_Ta_length_4 ⟨rfl, rfl⟩
abbrev m_Sh_feed : MI := (⟨"ShadeTown", "feed", "(IIIII)I"⟩, prog_1_method_2_code, 6, (Option.some Jvm.ClassFile.FieldType.int))
theorem d_Sh_feed_0 : decode prog_1_method_2_code 0 = .ok (.aload_n 0, 1) := by decide +kernel
theorem fl_Sh_10 : FL "ShadeTown" 10 T_Sh 0 := atG 419 (by decide +kernel) rfl
theorem d_Sh_feed_1 : decode prog_1_method_2_code 1 = .ok (.getfield 10, 3) := by decide +kernel
theorem d_Sh_feed_4 : decode prog_1_method_2_code 4 = .ok (.bipush 20, 2) := by decide +kernel
theorem d_Sh_feed_6 : decode prog_1_method_2_code 6 = .ok (.invokevirtual 93, 3) := by decide +kernel
theorem k_Ta_hasRoomFor : MOk m_Ta_hasRoomFor 1 ∧ IOk m_Ta_hasRoomFor := ⟨⟨atG 466 (by decide +kernel) rfl, atG 112 (by decide +kernel) rfl, ⟨by decide, by decide⟩, by decide +kernel, by decide⟩, atG 464 (by decide +kernel) rfl, atG 465 (by decide +kernel) rfl⟩
theorem lk_Sh_93 : Cond.methodLink "ShadeTown" 93 ⟨"ShadeTown$Tape", "hasRoomFor", "(I)Z"⟩ ∈ tblG := atG 463 (by decide +kernel) rfl
theorem d_Sh_feed_14 : decode prog_1_method_2_code 14 = .ok (.aload_n 0, 1) := by decide +kernel
theorem d_Sh_feed_15 : decode prog_1_method_2_code 15 = .ok (.getfield 10, 3) := by decide +kernel
theorem d_Sh_feed_18 : decode prog_1_method_2_code 18 = .ok (.iload_n 1, 1) := by decide +kernel
theorem d_Sh_feed_19 : decode prog_1_method_2_code 19 = .ok (.invokevirtual 97, 3) := by decide +kernel
theorem k_Ta_addInt : MOk m_Ta_addInt 1 ∧ IOk m_Ta_addInt := ⟨⟨atG 470 (by decide +kernel) rfl, atG 112 (by decide +kernel) rfl, ⟨by decide, by decide⟩, by decide +kernel, by decide⟩, atG 468 (by decide +kernel) rfl, atG 469 (by decide +kernel) rfl⟩
theorem lk_Sh_97 : Cond.methodLink "ShadeTown" 97 ⟨"ShadeTown$Tape", "addInt", "(I)V"⟩ ∈ tblG := atG 467 (by decide +kernel) rfl
theorem d_Sh_feed_22 : decode prog_1_method_2_code 22 = .ok (.aload_n 0, 1) := by decide +kernel
theorem d_Sh_feed_23 : decode prog_1_method_2_code 23 = .ok (.getfield 10, 3) := by decide +kernel
theorem d_Sh_feed_26 : decode prog_1_method_2_code 26 = .ok (.iload_n 2, 1) := by decide +kernel
theorem d_Sh_feed_27 : decode prog_1_method_2_code 27 = .ok (.invokevirtual 97, 3) := by decide +kernel
theorem d_Sh_feed_30 : decode prog_1_method_2_code 30 = .ok (.aload_n 0, 1) := by decide +kernel
theorem d_Sh_feed_31 : decode prog_1_method_2_code 31 = .ok (.getfield 10, 3) := by decide +kernel
theorem d_Sh_feed_34 : decode prog_1_method_2_code 34 = .ok (.iload_n 3, 1) := by decide +kernel
theorem d_Sh_feed_35 : decode prog_1_method_2_code 35 = .ok (.invokevirtual 97, 3) := by decide +kernel
theorem d_Sh_feed_38 : decode prog_1_method_2_code 38 = .ok (.aload_n 0, 1) := by decide +kernel
theorem d_Sh_feed_39 : decode prog_1_method_2_code 39 = .ok (.getfield 10, 3) := by decide +kernel
theorem d_Sh_feed_42 : decode prog_1_method_2_code 42 = .ok (.iload 4, 2) := by decide +kernel
theorem d_Sh_feed_44 : decode prog_1_method_2_code 44 = .ok (.invokevirtual 97, 3) := by decide +kernel
theorem d_Sh_feed_47 : decode prog_1_method_2_code 47 = .ok (.aload_n 0, 1) := by decide +kernel
theorem d_Sh_feed_48 : decode prog_1_method_2_code 48 = .ok (.getfield 10, 3) := by decide +kernel
theorem d_Sh_feed_51 : decode prog_1_method_2_code 51 = .ok (.iload 5, 2) := by decide +kernel
theorem d_Sh_feed_53 : decode prog_1_method_2_code 53 = .ok (.invokevirtual 97, 3) := by decide +kernel
theorem d_Sh_feed_56 : decode prog_1_method_2_code 56 = .ok (.aload_n 0, 1) := by decide +kernel
theorem d_Sh_feed_57 : decode prog_1_method_2_code 57 = .ok (.getfield 10, 3) := by decide +kernel
theorem d_Sh_feed_60 : decode prog_1_method_2_code 60 = .ok (.invokevirtual 101, 3) := by decide +kernel
theorem k_Ta_length : MOk m_Ta_length 0 ∧ IOk m_Ta_length := ⟨⟨atG 474 (by decide +kernel) rfl, atG 112 (by decide +kernel) rfl, ⟨by decide, by decide⟩, by decide +kernel, by decide⟩, atG 472 (by decide +kernel) rfl, atG 473 (by decide +kernel) rfl⟩
theorem lk_Sh_101 : Cond.methodLink "ShadeTown" 101 ⟨"ShadeTown$Tape", "length", "()I"⟩ ∈ tblG := atG 471 (by decide +kernel) rfl
theorem d_Sh_feed_63 : decode prog_1_method_2_code 63 = .ok (.ireturn, 1) := by decide +kernel
theorem d_Sh_feed_12 : decode prog_1_method_2_code 12 = .ok (.iconst (-1), 1) := by decide +kernel
theorem d_Sh_feed_13 : decode prog_1_method_2_code 13 = .ok (.ireturn, 1) := by decide +kernel
theorem d_Sh_feed_9 : decode prog_1_method_2_code 9 = .ok (.ifCond .ne 5, 3) := by decide +kernel
def f_Sh_feed (N : Nat) (σ : Mem) (a1 : Int32) (a2 : Int32) (a3 : Int32) (a4 : Int32) (a5 : Int32) : Option (Int32 × Mem) :=
  bnd1 (f_Ta_hasRoomFor σ 20) fun r6 =>
  if r6 = 0 then
    (some ((-1), σ))
  else
    (bnd1 (f_Ta_addInt N σ a1) fun σ19 =>
    bnd1 (f_Ta_addInt N σ19 a2) fun σ27 =>
    bnd1 (f_Ta_addInt N σ27 a3) fun σ35 =>
    bnd1 (f_Ta_addInt N σ35 a4) fun σ44 =>
    bnd1 (f_Ta_addInt N σ44 a5) fun σ53 =>
    bnd1 (f_Ta_length σ53) fun r60 =>
    some (r60, σ53))
set_option maxHeartbeats 4000000 in
set_option maxRecDepth 20000 in
theorem c_Sh_feed (Z : ZX) {N : Nat} {σ : Mem} {a1 : Int32} {a2 : Int32} {a3 : Int32} {a4 : Int32} {a5 : Int32} {r : Int32} {σ' : Mem} (h : f_Sh_feed N σ a1 a2 a3 a4 a5 = some (r, σ')) : CI Z 1 m_Sh_feed [rf Z 0, .int a1, .int a2, .int a3, .int a4, .int a5] σ r σ' := by
  refine Ct.of (by decide +kernel) (Nat.le_of_ble_eq_true rfl) (fun Y => ?_)
  show V (mkB Z) Y m_Sh_feed 1 (QP (mkB Z) Y nC 0 0 (fun v t => v = some (.int r) ∧ t = σ')) 0 0 nC σ 0 [(0, rf Z 0), (1, .int a1), (2, .int a2), (3, .int a3), (4, .int a4), (5, .int a5)] []
  unfold f_Sh_feed at h
  refine V.aload_n d_Sh_feed_0 rfl 0 rfl ?_
  refine V.getR (r := 1) ok_Sh fl_Sh_10 (by decide) (by decide) ly_0 rfl d_Sh_feed_1 ?_
  refine V.bipush (v := 20) d_Sh_feed_4 (by decide) ?_
  obtain ⟨r6, h1, h⟩ := bnd1_e h
  refine V.vI (as := [.int 20]) (st := []) (c_Ta_hasRoomFor Z h1) k_Ta_hasRoomFor lk_Sh_93 (by decide) rfl (by decide) ly_1 ok_Ta.1 rfl (Nat.le_of_ble_eq_true rfl) d_Sh_feed_6 ?_
  refine V.if_ne (tgt := 14) d_Sh_feed_9 (by decide) (fun hc9 => ?_) (fun hc9 => ?_)
  · replace h := ite_f hc9 h
    refine V.aload_n d_Sh_feed_14 rfl 0 rfl ?_
    refine V.getR (r := 1) ok_Sh fl_Sh_10 (by decide) (by decide) ly_0 rfl d_Sh_feed_15 ?_
    refine V.iload_n d_Sh_feed_18 rfl 1 rfl ?_
    obtain ⟨σ19, h1, h⟩ := bnd1_e h
    refine V.vN (as := [.int a1]) (st := []) (c_Ta_addInt Z h1) k_Ta_addInt lk_Sh_97 (by decide) rfl (by decide) ly_1 ok_Ta.1 rfl (Nat.le_of_ble_eq_true rfl) d_Sh_feed_19 ?_
    refine V.aload_n d_Sh_feed_22 rfl 0 rfl ?_
    refine V.getR (r := 1) ok_Sh fl_Sh_10 (by decide) (by decide) ly_0 rfl d_Sh_feed_23 ?_
    refine V.iload_n d_Sh_feed_26 rfl 2 rfl ?_
    obtain ⟨σ27, h1, h⟩ := bnd1_e h
    refine V.vN (as := [.int a2]) (st := []) (c_Ta_addInt Z h1) k_Ta_addInt lk_Sh_97 (by decide) rfl (by decide) ly_1 ok_Ta.1 rfl (Nat.le_of_ble_eq_true rfl) d_Sh_feed_27 ?_
    refine V.aload_n d_Sh_feed_30 rfl 0 rfl ?_
    refine V.getR (r := 1) ok_Sh fl_Sh_10 (by decide) (by decide) ly_0 rfl d_Sh_feed_31 ?_
    refine V.iload_n d_Sh_feed_34 rfl 3 rfl ?_
    obtain ⟨σ35, h1, h⟩ := bnd1_e h
    refine V.vN (as := [.int a3]) (st := []) (c_Ta_addInt Z h1) k_Ta_addInt lk_Sh_97 (by decide) rfl (by decide) ly_1 ok_Ta.1 rfl (Nat.le_of_ble_eq_true rfl) d_Sh_feed_35 ?_
    refine V.aload_n d_Sh_feed_38 rfl 0 rfl ?_
    refine V.getR (r := 1) ok_Sh fl_Sh_10 (by decide) (by decide) ly_0 rfl d_Sh_feed_39 ?_
    refine V.iload d_Sh_feed_42 4 rfl ?_
    obtain ⟨σ44, h1, h⟩ := bnd1_e h
    refine V.vN (as := [.int a4]) (st := []) (c_Ta_addInt Z h1) k_Ta_addInt lk_Sh_97 (by decide) rfl (by decide) ly_1 ok_Ta.1 rfl (Nat.le_of_ble_eq_true rfl) d_Sh_feed_44 ?_
    refine V.aload_n d_Sh_feed_47 rfl 0 rfl ?_
    refine V.getR (r := 1) ok_Sh fl_Sh_10 (by decide) (by decide) ly_0 rfl d_Sh_feed_48 ?_
    refine V.iload d_Sh_feed_51 5 rfl ?_
    obtain ⟨σ53, h1, h⟩ := bnd1_e h
    refine V.vN (as := [.int a5]) (st := []) (c_Ta_addInt Z h1) k_Ta_addInt lk_Sh_97 (by decide) rfl (by decide) ly_1 ok_Ta.1 rfl (Nat.le_of_ble_eq_true rfl) d_Sh_feed_53 ?_
    refine V.aload_n d_Sh_feed_56 rfl 0 rfl ?_
    refine V.getR (r := 1) ok_Sh fl_Sh_10 (by decide) (by decide) ly_0 rfl d_Sh_feed_57 ?_
    obtain ⟨r60, h1, h⟩ := bnd1_e h
    refine V.vI (as := []) (st := []) (c_Ta_length Z h1) k_Ta_length lk_Sh_101 (by decide) rfl (by decide) ly_1 ok_Ta.1 rfl (Nat.le_of_ble_eq_true rfl) d_Sh_feed_60 ?_
    cases h
    exact V.iret rfl d_Sh_feed_63 ⟨rfl, rfl⟩
  · replace h := ite_t hc9 h
    refine V.iconst (v := (-1)) d_Sh_feed_12 (by decide) ?_
    cases h
    exact V.iret rfl d_Sh_feed_13 ⟨rfl, rfl⟩
abbrev m_JM_min_7cf53 : MI := (⟨"java/lang/Math", "min", "(II)I"⟩, prog_16_method_69_code, 2, (Option.some Jvm.ClassFile.FieldType.int))
theorem d_JM_min_7cf53_0 : decode prog_16_method_69_code 0 = .ok (.iload_n 0, 1) := by decide +kernel
theorem d_JM_min_7cf53_1 : decode prog_16_method_69_code 1 = .ok (.iload_n 1, 1) := by decide +kernel
theorem d_JM_min_7cf53_9 : decode prog_16_method_69_code 9 = .ok (.iload_n 1, 1) := by decide +kernel
theorem d_JM_min_7cf53_10 : decode prog_16_method_69_code 10 = .ok (.ireturn, 1) := by decide +kernel
theorem d_JM_min_7cf53_5 : decode prog_16_method_69_code 5 = .ok (.iload_n 0, 1) := by decide +kernel
theorem d_JM_min_7cf53_6 : decode prog_16_method_69_code 6 = .ok (.goto 4, 3) := by decide +kernel
theorem d_JM_min_7cf53_2 : decode prog_16_method_69_code 2 = .ok (.if_icmp .gt 7, 3) := by decide +kernel
def f_JM_min_7cf53 (a0 : Int32) (a1 : Int32) : Option (Int32) :=
  if a1 < a0 then
    (some a1)
  else
    (some a0)
set_option maxHeartbeats 4000000 in
set_option maxRecDepth 20000 in
theorem c_JM_min_7cf53 (Z : ZX) {σ : Mem} {a0 : Int32} {a1 : Int32} {r : Int32} (h : f_JM_min_7cf53 a0 a1 = some r) : CI Z 0 m_JM_min_7cf53 [.int a0, .int a1] σ r σ := by
  refine Ct.of (by decide +kernel) (Nat.le_of_ble_eq_true rfl) (fun Y => ?_)
  show V (mkB Z) Y m_JM_min_7cf53 0 (QP (mkB Z) Y nC 0 0 (fun v t => v = some (.int r) ∧ t = σ)) 0 0 nC σ 0 [(0, .int a0), (1, .int a1)] []
  unfold f_JM_min_7cf53 at h
  refine V.iload_n d_JM_min_7cf53_0 rfl 0 rfl ?_
  refine V.iload_n d_JM_min_7cf53_1 rfl 1 rfl ?_
  refine V.icmp_gt (tgt := 9) d_JM_min_7cf53_2 (by decide) (fun hc2 => ?_) (fun hc2 => ?_)
  · replace h := ite_t hc2 h
    refine V.iload_n d_JM_min_7cf53_9 rfl 1 rfl ?_
    cases h
    exact V.iret rfl d_JM_min_7cf53_10 ⟨rfl, rfl⟩
  · replace h := ite_f hc2 h
    refine V.iload_n d_JM_min_7cf53_5 rfl 0 rfl ?_
    refine V.goto (tgt := 10) d_JM_min_7cf53_6 (by decide) ?_
    cases h
    exact V.iret rfl d_JM_min_7cf53_10 ⟨rfl, rfl⟩
abbrev m_Ta_byteAt : MI := (⟨"ShadeTown$Tape", "byteAt", "(I)I"⟩, prog_8_method_5_code, 2, (Option.some Jvm.ClassFile.FieldType.int))
theorem d_Ta_byteAt_0 : decode prog_8_method_5_code 0 = .ok (.iload_n 1, 1) := by decide +kernel
theorem d_Ta_byteAt_21 : decode prog_8_method_5_code 21 = .ok (.iconst (-1), 1) := by decide +kernel
theorem d_Ta_byteAt_22 : decode prog_8_method_5_code 22 = .ok (.ireturn, 1) := by decide +kernel
theorem d_Ta_byteAt_4 : decode prog_8_method_5_code 4 = .ok (.iload_n 1, 1) := by decide +kernel
theorem d_Ta_byteAt_5 : decode prog_8_method_5_code 5 = .ok (.aload_n 0, 1) := by decide +kernel
theorem d_Ta_byteAt_6 : decode prog_8_method_5_code 6 = .ok (.getfield 15, 3) := by decide +kernel
theorem d_Ta_byteAt_12 : decode prog_8_method_5_code 12 = .ok (.aload_n 0, 1) := by decide +kernel
theorem d_Ta_byteAt_13 : decode prog_8_method_5_code 13 = .ok (.getfield 11, 3) := by decide +kernel
theorem d_Ta_byteAt_16 : decode prog_8_method_5_code 16 = .ok (.iload_n 1, 1) := by decide +kernel
theorem d_Ta_byteAt_17 : decode prog_8_method_5_code 17 = .ok (.iaload, 1) := by decide +kernel
theorem d_Ta_byteAt_18 : decode prog_8_method_5_code 18 = .ok (.goto 4, 3) := by decide +kernel
theorem d_Ta_byteAt_9 : decode prog_8_method_5_code 9 = .ok (.if_icmp .ge 12, 3) := by decide +kernel
theorem d_Ta_byteAt_1 : decode prog_8_method_5_code 1 = .ok (.ifCond .lt 20, 3) := by decide +kernel
def f_Ta_byteAt (σ : Mem) (a1 : Int32) : Option (Int32) :=
  if a1 < 0 then
    (some (-1))
  else
    (if (mI σ 1 1) ≤ a1 then
      (some (-1))
    else
      (grd (inb a1 260) <|
      some (mI σ 2 (a1.toNatClampNeg))))
set_option maxHeartbeats 4000000 in
set_option maxRecDepth 20000 in
theorem c_Ta_byteAt (Z : ZX) {σ : Mem} {a1 : Int32} {r : Int32} (h : f_Ta_byteAt σ a1 = some r) : CI Z 0 m_Ta_byteAt [rf Z 1, .int a1] σ r σ := by
  refine Ct.of (by decide +kernel) (Nat.le_of_ble_eq_true rfl) (fun Y => ?_)
  show V (mkB Z) Y m_Ta_byteAt 0 (QP (mkB Z) Y nC 0 0 (fun v t => v = some (.int r) ∧ t = σ)) 0 0 nC σ 0 [(0, rf Z 1), (1, .int a1)] []
  unfold f_Ta_byteAt at h
  refine V.iload_n d_Ta_byteAt_0 rfl 1 rfl ?_
  refine V.if_lt (tgt := 21) d_Ta_byteAt_1 (by decide) (fun hc1 => ?_) (fun hc1 => ?_)
  · replace h := ite_t hc1 h
    refine V.iconst (v := (-1)) d_Ta_byteAt_21 (by decide) ?_
    cases h
    exact V.iret rfl d_Ta_byteAt_22 ⟨rfl, rfl⟩
  · replace h := ite_f hc1 h
    refine V.iload_n d_Ta_byteAt_4 rfl 1 rfl ?_
    refine V.aload_n d_Ta_byteAt_5 rfl 0 rfl ?_
    refine V.getI ok_Ta fl_Ta_15 (by decide) (by decide) ly_1 rfl d_Ta_byteAt_6 ?_
    refine V.icmp_ge (tgt := 21) d_Ta_byteAt_9 (by decide) (fun hc9 => ?_) (fun hc9 => ?_)
    · replace h := ite_t hc9 h
      refine V.iconst (v := (-1)) d_Ta_byteAt_21 (by decide) ?_
      cases h
      exact V.iret rfl d_Ta_byteAt_22 ⟨rfl, rfl⟩
    · replace h := ite_f hc9 h
      refine V.aload_n d_Ta_byteAt_12 rfl 0 rfl ?_
      refine V.getR (r := 2) ok_Ta fl_Ta_11 (by decide) (by decide) ly_1 rfl d_Ta_byteAt_13 ?_
      refine V.iload_n d_Ta_byteAt_16 rfl 1 rfl ?_
      obtain ⟨gq, h⟩ := grd_e h
      refine V.ra (by decide) ly_2 (inb_e gq) rfl d_Ta_byteAt_17 ?_
      refine V.goto (tgt := 22) d_Ta_byteAt_18 (by decide) ?_
      cases h
      exact V.iret rfl d_Ta_byteAt_22 ⟨rfl, rfl⟩
abbrev m_La_clear : MI := (⟨"ShadeTown$Law", "clear", "()V"⟩, prog_4_method_4_code, 1, (Option.none : Option Jvm.ClassFile.FieldType))
theorem d_La_clear_0 : decode prog_4_method_4_code 0 = .ok (.aload_n 0, 1) := by decide +kernel
theorem d_La_clear_1 : decode prog_4_method_4_code 1 = .ok (.iconst 0, 1) := by decide +kernel
theorem fl_La_15 : FL "ShadeTown$Law" 15 T_La 1 := atG 161 (by decide +kernel) rfl
theorem d_La_clear_2 : decode prog_4_method_4_code 2 = .ok (.putfield 15, 3) := by decide +kernel
theorem d_La_clear_5 : decode prog_4_method_4_code 5 = .ok (.aload_n 0, 1) := by decide +kernel
theorem d_La_clear_6 : decode prog_4_method_4_code 6 = .ok (.iconst 0, 1) := by decide +kernel
theorem fl_La_28 : FL "ShadeTown$Law" 28 T_La 5 := atG 165 (by decide +kernel) rfl
theorem d_La_clear_7 : decode prog_4_method_4_code 7 = .ok (.putfield 28, 3) := by decide +kernel
theorem d_La_clear_10 : decode prog_4_method_4_code 10 = .ok (.return_, 1) := by decide +kernel
def f_La_clear_b (σ : Mem) : Option (Mem) :=
  letv (sI σ 10 1 0) fun σ2 =>
  letv (sI σ2 10 5 0) fun σ7 =>
  some σ7
set_option maxHeartbeats 4000000 in
set_option maxRecDepth 20000 in
theorem c_La_clear_b (Z : ZX) {σ : Mem} {σ' : Mem} (h : f_La_clear_b σ = some σ') : CN Z 0 m_La_clear [rf Z 10] σ σ' := by
  refine Ct.of (by decide +kernel) (Nat.le_of_ble_eq_true rfl) (fun Y => ?_)
  show V (mkB Z) Y m_La_clear 0 (QP (mkB Z) Y nC 0 0 (fun v t => v = none ∧ t = σ')) 0 0 nC σ 0 [(0, rf Z 10)] []
  unfold f_La_clear_b at h
  refine V.aload_n d_La_clear_0 rfl 0 rfl ?_
  refine V.iconst (v := 0) d_La_clear_1 (by decide) ?_
  obtain ⟨σ2, e_σ2, h⟩ := letv_e h
  refine V.putI ok_La fl_La_15 (by decide) (by decide) ly_10 rfl rfl rfl rfl d_La_clear_2 (V.mem e_σ2 ?_)
  refine V.aload_n d_La_clear_5 rfl 0 rfl ?_
  refine V.iconst (v := 0) d_La_clear_6 (by decide) ?_
  obtain ⟨σ7, e_σ7, h⟩ := letv_e h
  refine V.putI ok_La fl_La_28 (by decide) (by decide) ly_10 rfl rfl rfl rfl d_La_clear_7 (V.mem e_σ7 ?_)
  cases h
  exact V.vret rfl d_La_clear_10 ⟨rfl, rfl⟩
abbrev m_Rd_fail : MI := (⟨"ShadeTown$LawReader", "fail", "(I)Z"⟩, prog_5_method_5_code, 2, (Option.some Jvm.ClassFile.FieldType.boolean))
theorem d_Rd_fail_0 : decode prog_5_method_5_code 0 = .ok (.aload_n 0, 1) := by decide +kernel
theorem d_Rd_fail_1 : decode prog_5_method_5_code 1 = .ok (.sipush (-1000), 3) := by decide +kernel
theorem d_Rd_fail_4 : decode prog_5_method_5_code 4 = .ok (.iload_n 1, 1) := by decide +kernel
theorem d_Rd_fail_5 : decode prog_5_method_5_code 5 = .ok (.imul, 1) := by decide +kernel
theorem d_Rd_fail_6 : decode prog_5_method_5_code 6 = .ok (.aload_n 0, 1) := by decide +kernel
theorem fl_Rd_19 : FL "ShadeTown$LawReader" 19 T_Rd 4 := atG 195 (by decide +kernel) rfl
theorem d_Rd_fail_7 : decode prog_5_method_5_code 7 = .ok (.getfield 19, 3) := by decide +kernel
theorem d_Rd_fail_10 : decode prog_5_method_5_code 10 = .ok (.isub, 1) := by decide +kernel
theorem fl_Rd_22 : FL "ShadeTown$LawReader" 22 T_Rd 5 := atG 196 (by decide +kernel) rfl
theorem d_Rd_fail_11 : decode prog_5_method_5_code 11 = .ok (.putfield 22, 3) := by decide +kernel
theorem d_Rd_fail_14 : decode prog_5_method_5_code 14 = .ok (.iconst 0, 1) := by decide +kernel
theorem d_Rd_fail_15 : decode prog_5_method_5_code 15 = .ok (.ireturn, 1) := by decide +kernel
def f_Rd_fail (σ : Mem) (a1 : Int32) : Option (Int32 × Mem) :=
  letv (sI σ 17 5 (((-1000) * a1) - (mI σ 17 4))) fun σ11 =>
  some (0, σ11)
set_option maxHeartbeats 4000000 in
set_option maxRecDepth 20000 in
theorem c_Rd_fail (Z : ZX) {σ : Mem} {a1 : Int32} {r : Int32} {σ' : Mem} (h : f_Rd_fail σ a1 = some (r, σ')) : CI Z 0 m_Rd_fail [rf Z 17, .int a1] σ r σ' := by
  refine Ct.of (by decide +kernel) (Nat.le_of_ble_eq_true rfl) (fun Y => ?_)
  show V (mkB Z) Y m_Rd_fail 0 (QP (mkB Z) Y nC 0 0 (fun v t => v = some (.int r) ∧ t = σ')) 0 0 nC σ 0 [(0, rf Z 17), (1, .int a1)] []
  unfold f_Rd_fail at h
  refine V.aload_n d_Rd_fail_0 rfl 0 rfl ?_
  refine V.sipush (v := (-1000)) d_Rd_fail_1 (by decide) ?_
  refine V.iload_n d_Rd_fail_4 rfl 1 rfl ?_
  refine V.imul d_Rd_fail_5 ?_
  refine V.aload_n d_Rd_fail_6 rfl 0 rfl ?_
  refine V.getI ok_Rd fl_Rd_19 (by decide) (by decide) ly_17 rfl d_Rd_fail_7 ?_
  refine V.isub d_Rd_fail_10 ?_
  obtain ⟨σ11, e_σ11, h⟩ := letv_e h
  refine V.putI ok_Rd fl_Rd_22 (by decide) (by decide) ly_17 rfl rfl rfl rfl d_Rd_fail_11 (V.mem e_σ11 ?_)
  refine V.iconst (v := 0) d_Rd_fail_14 (by decide) ?_
  cases h
  exact V.zret rfl rfl d_Rd_fail_15 ⟨rfl, rfl⟩
abbrev m_Rd_sign : MI := (⟨"ShadeTown$LawReader", "sign", "()I"⟩, prog_5_method_3_code, 1, (Option.some Jvm.ClassFile.FieldType.int))
theorem d_Rd_sign_0 : decode prog_5_method_3_code 0 = .ok (.aload_n 0, 1) := by decide +kernel
theorem d_Rd_sign_1 : decode prog_5_method_3_code 1 = .ok (.getfield 19, 3) := by decide +kernel
theorem d_Rd_sign_30 : decode prog_5_method_3_code 30 = .ok (.iconst (-1), 1) := by decide +kernel
theorem d_Rd_sign_31 : decode prog_5_method_3_code 31 = .ok (.ireturn, 1) := by decide +kernel
theorem d_Rd_sign_7 : decode prog_5_method_3_code 7 = .ok (.aload_n 0, 1) := by decide +kernel
theorem d_Rd_sign_8 : decode prog_5_method_3_code 8 = .ok (.getfield 19, 3) := by decide +kernel
theorem d_Rd_sign_11 : decode prog_5_method_3_code 11 = .ok (.aload_n 0, 1) := by decide +kernel
theorem fl_Rd_15 : FL "ShadeTown$LawReader" 15 T_Rd 3 := atG 194 (by decide +kernel) rfl
theorem d_Rd_sign_12 : decode prog_5_method_3_code 12 = .ok (.getfield 15, 3) := by decide +kernel
theorem d_Rd_sign_18 : decode prog_5_method_3_code 18 = .ok (.aload_n 0, 1) := by decide +kernel
theorem fl_Rd_9 : FL "ShadeTown$LawReader" 9 T_Rd 2 := atG 193 (by decide +kernel) rfl
theorem d_Rd_sign_19 : decode prog_5_method_3_code 19 = .ok (.getfield 9, 3) := by decide +kernel
theorem d_Rd_sign_22 : decode prog_5_method_3_code 22 = .ok (.aload_n 0, 1) := by decide +kernel
theorem d_Rd_sign_23 : decode prog_5_method_3_code 23 = .ok (.getfield 19, 3) := by decide +kernel
theorem d_Rd_sign_26 : decode prog_5_method_3_code 26 = .ok (.iaload, 1) := by decide +kernel
theorem d_Rd_sign_27 : decode prog_5_method_3_code 27 = .ok (.goto 4, 3) := by decide +kernel
theorem d_Rd_sign_15 : decode prog_5_method_3_code 15 = .ok (.if_icmp .ge 15, 3) := by decide +kernel
theorem d_Rd_sign_4 : decode prog_5_method_3_code 4 = .ok (.ifCond .lt 26, 3) := by decide +kernel
def f_Rd_sign (σ : Mem) : Option (Int32) :=
  if (mI σ 17 4) < 0 then
    (some (-1))
  else
    (if (mI σ 17 3) ≤ (mI σ 17 4) then
      (some (-1))
    else
      (grd (inb (mI σ 17 4) 240) <|
      some (mI σ 18 ((mI σ 17 4).toNatClampNeg))))
set_option maxHeartbeats 4000000 in
set_option maxRecDepth 20000 in
theorem c_Rd_sign (Z : ZX) {σ : Mem} {r : Int32} (h : f_Rd_sign σ = some r) : CI Z 0 m_Rd_sign [rf Z 17] σ r σ := by
  refine Ct.of (by decide +kernel) (Nat.le_of_ble_eq_true rfl) (fun Y => ?_)
  show V (mkB Z) Y m_Rd_sign 0 (QP (mkB Z) Y nC 0 0 (fun v t => v = some (.int r) ∧ t = σ)) 0 0 nC σ 0 [(0, rf Z 17)] []
  unfold f_Rd_sign at h
  refine V.aload_n d_Rd_sign_0 rfl 0 rfl ?_
  refine V.getI ok_Rd fl_Rd_19 (by decide) (by decide) ly_17 rfl d_Rd_sign_1 ?_
  refine V.if_lt (tgt := 30) d_Rd_sign_4 (by decide) (fun hc4 => ?_) (fun hc4 => ?_)
  · replace h := ite_t hc4 h
    refine V.iconst (v := (-1)) d_Rd_sign_30 (by decide) ?_
    cases h
    exact V.iret rfl d_Rd_sign_31 ⟨rfl, rfl⟩
  · replace h := ite_f hc4 h
    refine V.aload_n d_Rd_sign_7 rfl 0 rfl ?_
    refine V.getI ok_Rd fl_Rd_19 (by decide) (by decide) ly_17 rfl d_Rd_sign_8 ?_
    refine V.aload_n d_Rd_sign_11 rfl 0 rfl ?_
    refine V.getI ok_Rd fl_Rd_15 (by decide) (by decide) ly_17 rfl d_Rd_sign_12 ?_
    refine V.icmp_ge (tgt := 30) d_Rd_sign_15 (by decide) (fun hc15 => ?_) (fun hc15 => ?_)
    · replace h := ite_t hc15 h
      refine V.iconst (v := (-1)) d_Rd_sign_30 (by decide) ?_
      cases h
      exact V.iret rfl d_Rd_sign_31 ⟨rfl, rfl⟩
    · replace h := ite_f hc15 h
      refine V.aload_n d_Rd_sign_18 rfl 0 rfl ?_
      refine V.getR (r := 18) ok_Rd fl_Rd_9 (by decide) (by decide) ly_17 rfl d_Rd_sign_19 ?_
      refine V.aload_n d_Rd_sign_22 rfl 0 rfl ?_
      refine V.getI ok_Rd fl_Rd_19 (by decide) (by decide) ly_17 rfl d_Rd_sign_23 ?_
      obtain ⟨gq, h⟩ := grd_e h
      refine V.ra (by decide) ly_18 (inb_e gq) rfl d_Rd_sign_26 ?_
      refine V.goto (tgt := 31) d_Rd_sign_27 (by decide) ?_
      cases h
      exact V.iret rfl d_Rd_sign_31 ⟨rfl, rfl⟩
abbrev m_JS_isLatin1_aae02 : MI := (⟨"java/lang/String", "isLatin1", "()Z"⟩, prog_17_method_154_code, 1, (Option.some Jvm.ClassFile.FieldType.boolean))
theorem sf_JS_38 : Cond.fieldLink "java/lang/String" 38 "java/lang/String" "COMPACT_STRINGS" "Z" ∈ tblG := atG 523 (by decide +kernel) rfl
theorem d_JS_isLatin1_aae02_0 : decode prog_17_method_154_code 0 = .ok (.getstatic 38, 3) := by decide +kernel
theorem d_JS_isLatin1_aae02_17 : decode prog_17_method_154_code 17 = .ok (.iconst 0, 1) := by decide +kernel
theorem d_JS_isLatin1_aae02_18 : decode prog_17_method_154_code 18 = .ok (.ireturn, 1) := by decide +kernel
theorem d_JS_isLatin1_aae02_6 : decode prog_17_method_154_code 6 = .ok (.aload_n 0, 1) := by decide +kernel
theorem sf_JS_15 : Cond.fieldLink "java/lang/String" 15 "java/lang/String" "coder" "B" ∈ tblG := atG 2058 (by decide +kernel) rfl
theorem d_JS_isLatin1_aae02_7 : decode prog_17_method_154_code 7 = .ok (.getfield 15, 3) := by decide +kernel
theorem d_JS_isLatin1_aae02_13 : decode prog_17_method_154_code 13 = .ok (.iconst 1, 1) := by decide +kernel
theorem d_JS_isLatin1_aae02_14 : decode prog_17_method_154_code 14 = .ok (.goto 4, 3) := by decide +kernel
theorem d_JS_isLatin1_aae02_10 : decode prog_17_method_154_code 10 = .ok (.ifCond .ne 7, 3) := by decide +kernel
theorem d_JS_isLatin1_aae02_3 : decode prog_17_method_154_code 3 = .ok (.ifCond .eq 14, 3) := by decide +kernel
def f_JS_isLatin1_aae02_s0 : Option (Int32) :=
  if (1 : Int32) = 0 then
    (some 0)
  else
    (if (0 : Int32) = 0 then
      (some 1)
    else
      (some 0))
set_option maxHeartbeats 4000000 in
set_option maxRecDepth 20000 in
theorem c_JS_isLatin1_aae02_s0 (Z : ZX) {σ : Mem} {r : Int32} (h : f_JS_isLatin1_aae02_s0 = some r) : CI Z 0 m_JS_isLatin1_aae02 [.ref (bK (mkB Z) 0)] σ r σ := by
  refine Ct.of (by decide +kernel) (Nat.le_of_ble_eq_true rfl) (fun Y => ?_)
  show V (mkB Z) Y m_JS_isLatin1_aae02 0 (QP (mkB Z) Y nC 0 0 (fun v t => v = some (.int r) ∧ t = σ)) 0 0 nC σ 0 [(0, .ref (bK (mkB Z) 0))] []
  unfold f_JS_isLatin1_aae02_s0 at h
  refine V.gcs sf_JS_38 d_JS_isLatin1_aae02_0 ?_
  refine V.if_eq (tgt := 17) d_JS_isLatin1_aae02_3 (by decide) (fun hc3 => ?_) (fun hc3 => ?_)
  · replace h := ite_t hc3 h
    refine V.iconst (v := 0) d_JS_isLatin1_aae02_17 (by decide) ?_
    cases h
    exact V.zret rfl rfl d_JS_isLatin1_aae02_18 ⟨rfl, rfl⟩
  · replace h := ite_f hc3 h
    refine V.aload_n d_JS_isLatin1_aae02_6 rfl 0 rfl ?_
    refine V.scod (by decide) sf_JS_15 d_JS_isLatin1_aae02_7 ?_
    refine V.if_ne (tgt := 17) d_JS_isLatin1_aae02_10 (by decide) (fun hc10 => ?_) (fun hc10 => ?_)
    · replace h := ite_f hc10 h
      refine V.iconst (v := 0) d_JS_isLatin1_aae02_17 (by decide) ?_
      cases h
      exact V.zret rfl rfl d_JS_isLatin1_aae02_18 ⟨rfl, rfl⟩
    · replace h := ite_t hc10 h
      refine V.iconst (v := 1) d_JS_isLatin1_aae02_13 (by decide) ?_
      refine V.goto (tgt := 18) d_JS_isLatin1_aae02_14 (by decide) ?_
      cases h
      exact V.zret rfl rfl d_JS_isLatin1_aae02_18 ⟨rfl, rfl⟩
abbrev m_JS_coder_7d493 : MI := (⟨"java/lang/String", "coder", "()B"⟩, prog_17_method_152_code, 1, (Option.some Jvm.ClassFile.FieldType.byte))
theorem d_JS_coder_7d493_0 : decode prog_17_method_152_code 0 = .ok (.getstatic 38, 3) := by decide +kernel
theorem d_JS_coder_7d493_13 : decode prog_17_method_152_code 13 = .ok (.iconst 1, 1) := by decide +kernel
theorem d_JS_coder_7d493_14 : decode prog_17_method_152_code 14 = .ok (.ireturn, 1) := by decide +kernel
theorem d_JS_coder_7d493_6 : decode prog_17_method_152_code 6 = .ok (.aload_n 0, 1) := by decide +kernel
theorem d_JS_coder_7d493_7 : decode prog_17_method_152_code 7 = .ok (.getfield 15, 3) := by decide +kernel
theorem d_JS_coder_7d493_10 : decode prog_17_method_152_code 10 = .ok (.goto 4, 3) := by decide +kernel
theorem d_JS_coder_7d493_3 : decode prog_17_method_152_code 3 = .ok (.ifCond .eq 10, 3) := by decide +kernel
def f_JS_coder_7d493_s0 : Option (Int32) :=
  if (1 : Int32) = 0 then
    (some 1)
  else
    (some 0)
set_option maxHeartbeats 4000000 in
set_option maxRecDepth 20000 in
theorem c_JS_coder_7d493_s0 (Z : ZX) {σ : Mem} {r : Int32} (h : f_JS_coder_7d493_s0 = some r) : CI Z 0 m_JS_coder_7d493 [.ref (bK (mkB Z) 0)] σ r σ := by
  refine Ct.of (by decide +kernel) (Nat.le_of_ble_eq_true rfl) (fun Y => ?_)
  show V (mkB Z) Y m_JS_coder_7d493 0 (QP (mkB Z) Y nC 0 0 (fun v t => v = some (.int r) ∧ t = σ)) 0 0 nC σ 0 [(0, .ref (bK (mkB Z) 0))] []
  unfold f_JS_coder_7d493_s0 at h
  refine V.gcs sf_JS_38 d_JS_coder_7d493_0 ?_
  refine V.if_eq (tgt := 13) d_JS_coder_7d493_3 (by decide) (fun hc3 => ?_) (fun hc3 => ?_)
  · replace h := ite_t hc3 h
    refine V.iconst (v := 1) d_JS_coder_7d493_13 (by decide) ?_
    cases h
    exact V.zret rfl rfl d_JS_coder_7d493_14 ⟨rfl, rfl⟩
  · replace h := ite_f hc3 h
    refine V.aload_n d_JS_coder_7d493_6 rfl 0 rfl ?_
    refine V.scod (by decide) sf_JS_15 d_JS_coder_7d493_7 ?_
    refine V.goto (tgt := 14) d_JS_coder_7d493_10 (by decide) ?_
    cases h
    exact V.zret rfl rfl d_JS_coder_7d493_14 ⟨rfl, rfl⟩
abbrev m_JS_length_8abf5 : MI := (⟨"java/lang/String", "length", "()I"⟩, prog_17_method_54_code, 1, (Option.some Jvm.ClassFile.FieldType.int))
theorem d_JS_length_8abf5_0 : decode prog_17_method_54_code 0 = .ok (.aload_n 0, 1) := by decide +kernel
theorem sf_JS_9 : Cond.fieldLink "java/lang/String" 9 "java/lang/String" "value" "[B" ∈ tblG := atG 2059 (by decide +kernel) rfl
theorem d_JS_length_8abf5_1 : decode prog_17_method_54_code 1 = .ok (.getfield 9, 3) := by decide +kernel
theorem d_JS_length_8abf5_4 : decode prog_17_method_54_code 4 = .ok (.arraylength, 1) := by decide +kernel
theorem d_JS_length_8abf5_5 : decode prog_17_method_54_code 5 = .ok (.aload_n 0, 1) := by decide +kernel
theorem d_JS_length_8abf5_6 : decode prog_17_method_54_code 6 = .ok (.invokevirtual 335, 3) := by decide +kernel
theorem k_JS_coder_7d493 : MOk m_JS_coder_7d493 0 ∧ IOk m_JS_coder_7d493 := ⟨⟨atG 532 (by decide +kernel) rfl, atG 124 (by decide +kernel) rfl, ⟨by decide, by decide⟩, by decide +kernel, by decide⟩, atG 530 (by decide +kernel) rfl, atG 531 (by decide +kernel) rfl⟩
theorem lk_JS_335 : Cond.methodLink "java/lang/String" 335 ⟨"java/lang/String", "coder", "()B"⟩ ∈ tblG := atG 529 (by decide +kernel) rfl
theorem d_JS_length_8abf5_9 : decode prog_17_method_54_code 9 = .ok (.ishr, 1) := by decide +kernel
theorem d_JS_length_8abf5_10 : decode prog_17_method_54_code 10 = .ok (.ireturn, 1) := by decide +kernel
def f_JS_length_8abf5_s0 : Option (Int32) :=
  bnd1 (f_JS_coder_7d493_s0) fun r6 =>
  some (7 >>> (r6 &&& 31))
set_option maxHeartbeats 4000000 in
set_option maxRecDepth 20000 in
theorem c_JS_length_8abf5_s0 (Z : ZX) {σ : Mem} {r : Int32} (h : f_JS_length_8abf5_s0 = some r) : CI Z 1 m_JS_length_8abf5 [.ref (bK (mkB Z) 0)] σ r σ := by
  refine Ct.of (by decide +kernel) (Nat.le_of_ble_eq_true rfl) (fun Y => ?_)
  show V (mkB Z) Y m_JS_length_8abf5 1 (QP (mkB Z) Y nC 0 0 (fun v t => v = some (.int r) ∧ t = σ)) 0 0 nC σ 0 [(0, .ref (bK (mkB Z) 0))] []
  unfold f_JS_length_8abf5_s0 at h
  refine V.aload_n d_JS_length_8abf5_0 rfl 0 rfl ?_
  refine V.sval (by decide) sf_JS_9 d_JS_length_8abf5_1 ?_
  refine V.slen (x := 7) (by decide) (by decide) d_JS_length_8abf5_4 ?_
  refine V.aload_n d_JS_length_8abf5_5 rfl 0 rfl ?_
  obtain ⟨r6, h1, h⟩ := bnd1_e h
  refine V.uI (as := []) (st := [.int 7]) (by decide) (c_JS_coder_7d493_s0 Z h1) k_JS_coder_7d493 rfl lk_JS_335 (by decide) rfl rfl (Nat.le_of_ble_eq_true rfl) d_JS_length_8abf5_6 ?_
  refine V.ishr d_JS_length_8abf5_9 ?_
  cases h
  exact V.iret rfl d_JS_length_8abf5_10 ⟨rfl, rfl⟩
abbrev m_JL_canEncode_9a6ad : MI := (⟨"java/lang/StringLatin1", "canEncode", "(I)Z"⟩, prog_18_method_4_code, 1, (Option.some Jvm.ClassFile.FieldType.boolean))
theorem d_JL_canEncode_9a6ad_0 : decode prog_18_method_4_code 0 = .ok (.iload_n 0, 1) := by decide +kernel
theorem d_JL_canEncode_9a6ad_15 : decode prog_18_method_4_code 15 = .ok (.iconst 0, 1) := by decide +kernel
theorem d_JL_canEncode_9a6ad_16 : decode prog_18_method_4_code 16 = .ok (.ireturn, 1) := by decide +kernel
theorem d_JL_canEncode_9a6ad_4 : decode prog_18_method_4_code 4 = .ok (.iload_n 0, 1) := by decide +kernel
theorem d_JL_canEncode_9a6ad_5 : decode prog_18_method_4_code 5 = .ok (.sipush 255, 3) := by decide +kernel
theorem d_JL_canEncode_9a6ad_11 : decode prog_18_method_4_code 11 = .ok (.iconst 1, 1) := by decide +kernel
theorem d_JL_canEncode_9a6ad_12 : decode prog_18_method_4_code 12 = .ok (.goto 4, 3) := by decide +kernel
theorem d_JL_canEncode_9a6ad_8 : decode prog_18_method_4_code 8 = .ok (.if_icmp .gt 7, 3) := by decide +kernel
theorem d_JL_canEncode_9a6ad_1 : decode prog_18_method_4_code 1 = .ok (.ifCond .lt 14, 3) := by decide +kernel
def f_JL_canEncode_9a6ad (a0 : Int32) : Option (Int32) :=
  if a0 < 0 then
    (some 0)
  else
    (if 255 < a0 then
      (some 0)
    else
      (some 1))
set_option maxHeartbeats 4000000 in
set_option maxRecDepth 20000 in
theorem c_JL_canEncode_9a6ad (Z : ZX) {σ : Mem} {a0 : Int32} {r : Int32} (h : f_JL_canEncode_9a6ad a0 = some r) : CI Z 0 m_JL_canEncode_9a6ad [.int a0] σ r σ := by
  refine Ct.of (by decide +kernel) (Nat.le_of_ble_eq_true rfl) (fun Y => ?_)
  show V (mkB Z) Y m_JL_canEncode_9a6ad 0 (QP (mkB Z) Y nC 0 0 (fun v t => v = some (.int r) ∧ t = σ)) 0 0 nC σ 0 [(0, .int a0)] []
  unfold f_JL_canEncode_9a6ad at h
  refine V.iload_n d_JL_canEncode_9a6ad_0 rfl 0 rfl ?_
  refine V.if_lt (tgt := 15) d_JL_canEncode_9a6ad_1 (by decide) (fun hc1 => ?_) (fun hc1 => ?_)
  · replace h := ite_t hc1 h
    refine V.iconst (v := 0) d_JL_canEncode_9a6ad_15 (by decide) ?_
    cases h
    exact V.zret rfl rfl d_JL_canEncode_9a6ad_16 ⟨rfl, rfl⟩
  · replace h := ite_f hc1 h
    refine V.iload_n d_JL_canEncode_9a6ad_4 rfl 0 rfl ?_
    refine V.sipush (v := 255) d_JL_canEncode_9a6ad_5 (by decide) ?_
    refine V.icmp_gt (tgt := 15) d_JL_canEncode_9a6ad_8 (by decide) (fun hc8 => ?_) (fun hc8 => ?_)
    · replace h := ite_t hc8 h
      refine V.iconst (v := 0) d_JL_canEncode_9a6ad_15 (by decide) ?_
      cases h
      exact V.zret rfl rfl d_JL_canEncode_9a6ad_16 ⟨rfl, rfl⟩
    · replace h := ite_f hc8 h
      refine V.iconst (v := 1) d_JL_canEncode_9a6ad_11 (by decide) ?_
      refine V.goto (tgt := 16) d_JL_canEncode_9a6ad_12 (by decide) ?_
      cases h
      exact V.zret rfl rfl d_JL_canEncode_9a6ad_16 ⟨rfl, rfl⟩
abbrev m_JM_max_7cf53 : MI := (⟨"java/lang/Math", "max", "(II)I"⟩, prog_16_method_65_code, 2, (Option.some Jvm.ClassFile.FieldType.int))
theorem d_JM_max_7cf53_0 : decode prog_16_method_65_code 0 = .ok (.iload_n 0, 1) := by decide +kernel
theorem d_JM_max_7cf53_1 : decode prog_16_method_65_code 1 = .ok (.iload_n 1, 1) := by decide +kernel
theorem d_JM_max_7cf53_9 : decode prog_16_method_65_code 9 = .ok (.iload_n 1, 1) := by decide +kernel
theorem d_JM_max_7cf53_10 : decode prog_16_method_65_code 10 = .ok (.ireturn, 1) := by decide +kernel
theorem d_JM_max_7cf53_5 : decode prog_16_method_65_code 5 = .ok (.iload_n 0, 1) := by decide +kernel
theorem d_JM_max_7cf53_6 : decode prog_16_method_65_code 6 = .ok (.goto 4, 3) := by decide +kernel
theorem d_JM_max_7cf53_2 : decode prog_16_method_65_code 2 = .ok (.if_icmp .lt 7, 3) := by decide +kernel
def f_JM_max_7cf53 (a0 : Int32) (a1 : Int32) : Option (Int32) :=
  if a0 < a1 then
    (some a1)
  else
    (some a0)
set_option maxHeartbeats 4000000 in
set_option maxRecDepth 20000 in
theorem c_JM_max_7cf53 (Z : ZX) {σ : Mem} {a0 : Int32} {a1 : Int32} {r : Int32} (h : f_JM_max_7cf53 a0 a1 = some r) : CI Z 0 m_JM_max_7cf53 [.int a0, .int a1] σ r σ := by
  refine Ct.of (by decide +kernel) (Nat.le_of_ble_eq_true rfl) (fun Y => ?_)
  show V (mkB Z) Y m_JM_max_7cf53 0 (QP (mkB Z) Y nC 0 0 (fun v t => v = some (.int r) ∧ t = σ)) 0 0 nC σ 0 [(0, .int a0), (1, .int a1)] []
  unfold f_JM_max_7cf53 at h
  refine V.iload_n d_JM_max_7cf53_0 rfl 0 rfl ?_
  refine V.iload_n d_JM_max_7cf53_1 rfl 1 rfl ?_
  refine V.icmp_lt (tgt := 9) d_JM_max_7cf53_2 (by decide) (fun hc2 => ?_) (fun hc2 => ?_)
  · replace h := ite_t hc2 h
    refine V.iload_n d_JM_max_7cf53_9 rfl 1 rfl ?_
    cases h
    exact V.iret rfl d_JM_max_7cf53_10 ⟨rfl, rfl⟩
  · replace h := ite_f hc2 h
    refine V.iload_n d_JM_max_7cf53_5 rfl 0 rfl ?_
    refine V.goto (tgt := 10) d_JM_max_7cf53_6 (by decide) ?_
    cases h
    exact V.iret rfl d_JM_max_7cf53_10 ⟨rfl, rfl⟩
abbrev m_JL_indexOfChar_4cfef : MI := (⟨"java/lang/StringLatin1", "indexOfChar", "([BIII)I"⟩, prog_18_method_23_code, 6, (Option.some Jvm.ClassFile.FieldType.int))
theorem d_JL_indexOfChar_4cfef_0 : decode prog_18_method_23_code 0 = .ok (.iload_n 1, 1) := by decide +kernel
theorem d_JL_indexOfChar_4cfef_1 : decode prog_18_method_23_code 1 = .ok (.i2b, 1) := by decide +kernel
theorem d_JL_indexOfChar_4cfef_2 : decode prog_18_method_23_code 2 = .ok (.istore 4, 2) := by decide +kernel
theorem d_JL_indexOfChar_4cfef_4 : decode prog_18_method_23_code 4 = .ok (.iload_n 2, 1) := by decide +kernel
theorem d_JL_indexOfChar_4cfef_5 : decode prog_18_method_23_code 5 = .ok (.istore 5, 2) := by decide +kernel
theorem d_JL_indexOfChar_4cfef_7 : decode prog_18_method_23_code 7 = .ok (.iload 5, 2) := by decide +kernel
theorem d_JL_indexOfChar_4cfef_9 : decode prog_18_method_23_code 9 = .ok (.iload_n 3, 1) := by decide +kernel
theorem d_JL_indexOfChar_4cfef_31 : decode prog_18_method_23_code 31 = .ok (.iconst (-1), 1) := by decide +kernel
theorem d_JL_indexOfChar_4cfef_32 : decode prog_18_method_23_code 32 = .ok (.ireturn, 1) := by decide +kernel
theorem d_JL_indexOfChar_4cfef_13 : decode prog_18_method_23_code 13 = .ok (.aload_n 0, 1) := by decide +kernel
theorem d_JL_indexOfChar_4cfef_14 : decode prog_18_method_23_code 14 = .ok (.iload 5, 2) := by decide +kernel
theorem d_JL_indexOfChar_4cfef_16 : decode prog_18_method_23_code 16 = .ok (.baload, 1) := by decide +kernel
theorem d_JL_indexOfChar_4cfef_17 : decode prog_18_method_23_code 17 = .ok (.iload 4, 2) := by decide +kernel
theorem d_JL_indexOfChar_4cfef_25 : decode prog_18_method_23_code 25 = .ok (.iinc 5 1, 3) := by decide +kernel
theorem d_JL_indexOfChar_4cfef_28 : decode prog_18_method_23_code 28 = .ok (.goto (-21), 3) := by decide +kernel
theorem d_JL_indexOfChar_4cfef_22 : decode prog_18_method_23_code 22 = .ok (.iload 5, 2) := by decide +kernel
theorem d_JL_indexOfChar_4cfef_24 : decode prog_18_method_23_code 24 = .ok (.ireturn, 1) := by decide +kernel
theorem d_JL_indexOfChar_4cfef_19 : decode prog_18_method_23_code 19 = .ok (.if_icmp .ne 6, 3) := by decide +kernel
theorem d_JL_indexOfChar_4cfef_10 : decode prog_18_method_23_code 10 = .ok (.if_icmp .ge 21, 3) := by decide +kernel
def B_JL_indexOfChar_4cfef_s0_l7 (N : Nat) (a3 : Int32) (a4 : Int32) (rec : Int32 → Option (Int32)) (x5 : Int32) : Option (Int32) :=
  if a3 ≤ x5 then
    (some (-1))
  else
    (grd (inb x5 7) <|
    if (stb 0 (x5.toNatClampNeg)) = a4 then
      (some x5)
    else
      (letv (x5 + 1) fun v25 =>
      rec v25))
def L_JL_indexOfChar_4cfef_s0_l7 (N : Nat) (a3 : Int32) (a4 : Int32) : Nat → Int32 → Option (Int32)
  | 0, _ => none
  | k + 1, x5 => B_JL_indexOfChar_4cfef_s0_l7 N a3 a4 (L_JL_indexOfChar_4cfef_s0_l7 N a3 a4 k) x5
set_option maxHeartbeats 4000000 in
set_option maxRecDepth 20000 in
theorem cL_JL_indexOfChar_4cfef_s0_l7 (Z : ZX) {Y : YX} {post : Option Value → Mem → Prop} {N : Nat} {a3 : Int32} {a4 : Int32} {σ : Mem} {Good : Int32 → Prop} (hR : ∀ (v : Int32), Good v → post (some (.int v)) σ) : ∀ (k : Nat) (x5 : Int32) (res : Int32), L_JL_indexOfChar_4cfef_s0_l7 N a3 a4 k x5 = some res → Good res → V (mkB Z) Y m_JL_indexOfChar_4cfef 0 (QP (mkB Z) Y nC 0 0 post) 0 0 nC σ 7 [(0, .ref (bV (mkB Z) 0)), (3, .int a3), (4, .int a4), (5, .int x5)] [] := by
  intro k
  induction k with
  | zero => intro x5 res h; cases h
  | succ k ih =>
    intro x5 res h hg
    replace h : B_JL_indexOfChar_4cfef_s0_l7 N a3 a4 (L_JL_indexOfChar_4cfef_s0_l7 N a3 a4 k) x5 = some res := h
    unfold B_JL_indexOfChar_4cfef_s0_l7 at h
    refine V.iload d_JL_indexOfChar_4cfef_7 3 rfl ?_
    refine V.iload_n d_JL_indexOfChar_4cfef_9 rfl 1 rfl ?_
    refine V.icmp_ge (tgt := 31) d_JL_indexOfChar_4cfef_10 (by decide) (fun hc10 => ?_) (fun hc10 => ?_)
    · replace h := ite_t hc10 h
      refine V.iconst (v := (-1)) d_JL_indexOfChar_4cfef_31 (by decide) ?_
      cases h
      exact V.iret rfl d_JL_indexOfChar_4cfef_32 (hR _ hg)
    · replace h := ite_f hc10 h
      refine V.aload_n d_JL_indexOfChar_4cfef_13 rfl 0 rfl ?_
      refine V.iload d_JL_indexOfChar_4cfef_14 3 rfl ?_
      obtain ⟨gq, h⟩ := grd_e h
      refine V.sld (by decide) (inb_e gq) rfl d_JL_indexOfChar_4cfef_16 ?_
      refine V.iload d_JL_indexOfChar_4cfef_17 2 rfl ?_
      refine V.icmp_ne (tgt := 25) d_JL_indexOfChar_4cfef_19 (by decide) (fun hc19 => ?_) (fun hc19 => ?_)
      · replace h := ite_f hc19 h
        obtain ⟨v25, e_v25, h⟩ := letv_e h
        refine V.iinc (v := v25) (lv' := [(5, .int v25), (0, .ref (bV (mkB Z) 0)), (3, .int a3), (4, .int a4)]) d_JL_indexOfChar_4cfef_25 3 rfl (by rw [e_v25]; rfl) (by decide) rfl ?_
        refine V.goto (tgt := 7) d_JL_indexOfChar_4cfef_28 (by decide) ?_
        exact V.pick [1, 2, 3, 0] rfl (ih _ _ h hg)
      · replace h := ite_t hc19 h
        refine V.iload d_JL_indexOfChar_4cfef_22 3 rfl ?_
        cases h
        exact V.iret rfl d_JL_indexOfChar_4cfef_24 (hR _ hg)
def f_JL_indexOfChar_4cfef_s0 (N : Nat) (a1 : Int32) (a2 : Int32) (a3 : Int32) : Option (Int32) :=
  letv (a1.toInt8.toInt32) fun v2 =>
  L_JL_indexOfChar_4cfef_s0_l7 N a3 v2 N a2
set_option maxHeartbeats 4000000 in
set_option maxRecDepth 20000 in
theorem c_JL_indexOfChar_4cfef_s0 (Z : ZX) {N : Nat} {σ : Mem} {a1 : Int32} {a2 : Int32} {a3 : Int32} {r : Int32} (h : f_JL_indexOfChar_4cfef_s0 N a1 a2 a3 = some r) : CI Z 0 m_JL_indexOfChar_4cfef [.ref (bV (mkB Z) 0), .int a1, .int a2, .int a3] σ r σ := by
  refine Ct.of (by decide +kernel) (Nat.le_of_ble_eq_true rfl) (fun Y => ?_)
  show V (mkB Z) Y m_JL_indexOfChar_4cfef 0 (QP (mkB Z) Y nC 0 0 (fun v t => v = some (.int r) ∧ t = σ)) 0 0 nC σ 0 [(0, .ref (bV (mkB Z) 0)), (1, .int a1), (2, .int a2), (3, .int a3)] []
  unfold f_JL_indexOfChar_4cfef_s0 at h
  refine V.iload_n d_JL_indexOfChar_4cfef_0 rfl 1 rfl ?_
  refine V.i2b d_JL_indexOfChar_4cfef_1 ?_
  obtain ⟨v2, e_v2, h⟩ := letv_e h
  refine V.topI e_v2 ?_
  refine V.istore (lv' := [(4, .int v2), (0, .ref (bV (mkB Z) 0)), (1, .int a1), (2, .int a2), (3, .int a3)]) d_JL_indexOfChar_4cfef_2 (by decide) rfl ?_
  refine V.iload_n d_JL_indexOfChar_4cfef_4 rfl 3 rfl ?_
  refine V.istore (lv' := [(5, .int a2), (4, .int v2), (0, .ref (bV (mkB Z) 0)), (1, .int a1), (2, .int a2), (3, .int a3)]) d_JL_indexOfChar_4cfef_5 (by decide) rfl ?_
  refine V.pick [2, 5, 1, 0] rfl (cL_JL_indexOfChar_4cfef_s0_l7 Z (Good := fun z => z = _) (fun r7v he => ?_) N _ _ h rfl)
  · cases he
    exact ⟨rfl, rfl⟩
abbrev m_JL_indexOf_4cfef : MI := (⟨"java/lang/StringLatin1", "indexOf", "([BIII)I"⟩, prog_18_method_22_code, 4, (Option.some Jvm.ClassFile.FieldType.int))
theorem d_JL_indexOf_4cfef_0 : decode prog_18_method_22_code 0 = .ok (.iload_n 1, 1) := by decide +kernel
theorem d_JL_indexOf_4cfef_1 : decode prog_18_method_22_code 1 = .ok (.invokestatic 88, 3) := by decide +kernel
theorem k_JL_canEncode_9a6ad : MOk m_JL_canEncode_9a6ad 1 ∧ Cond.static m_JL_canEncode_9a6ad.1 ∈ tblG := ⟨⟨atG 538 (by decide +kernel) rfl, atG 125 (by decide +kernel) rfl, ⟨by decide, by decide⟩, by decide +kernel, by decide⟩, atG 537 (by decide +kernel) rfl⟩
theorem lk_JL_88 : Cond.methodLink "java/lang/StringLatin1" 88 ⟨"java/lang/StringLatin1", "canEncode", "(I)Z"⟩ ∈ tblG := atG 536 (by decide +kernel) rfl
theorem d_JL_indexOf_4cfef_9 : decode prog_18_method_22_code 9 = .ok (.iload_n 2, 1) := by decide +kernel
theorem d_JL_indexOf_4cfef_10 : decode prog_18_method_22_code 10 = .ok (.iconst 0, 1) := by decide +kernel
theorem d_JL_indexOf_4cfef_11 : decode prog_18_method_22_code 11 = .ok (.invokestatic 92, 3) := by decide +kernel
theorem k_JM_max_7cf53 : MOk m_JM_max_7cf53 2 ∧ Cond.static m_JM_max_7cf53.1 ∈ tblG := ⟨⟨atG 541 (by decide +kernel) rfl, atG 123 (by decide +kernel) rfl, ⟨by decide, by decide⟩, by decide +kernel, by decide⟩, atG 540 (by decide +kernel) rfl⟩
theorem lk_JL_92 : Cond.methodLink "java/lang/StringLatin1" 92 ⟨"java/lang/Math", "max", "(II)I"⟩ ∈ tblG := atG 539 (by decide +kernel) rfl
theorem d_JL_indexOf_4cfef_14 : decode prog_18_method_22_code 14 = .ok (.istore_n 2, 1) := by decide +kernel
theorem d_JL_indexOf_4cfef_15 : decode prog_18_method_22_code 15 = .ok (.iload_n 3, 1) := by decide +kernel
theorem d_JL_indexOf_4cfef_16 : decode prog_18_method_22_code 16 = .ok (.aload_n 0, 1) := by decide +kernel
theorem d_JL_indexOf_4cfef_17 : decode prog_18_method_22_code 17 = .ok (.arraylength, 1) := by decide +kernel
theorem d_JL_indexOf_4cfef_18 : decode prog_18_method_22_code 18 = .ok (.invokestatic 38, 3) := by decide +kernel
theorem k_JM_min_7cf53 : MOk m_JM_min_7cf53 2 ∧ Cond.static m_JM_min_7cf53.1 ∈ tblG := ⟨⟨atG 485 (by decide +kernel) rfl, atG 123 (by decide +kernel) rfl, ⟨by decide, by decide⟩, by decide +kernel, by decide⟩, atG 484 (by decide +kernel) rfl⟩
theorem lk_JL_38 : Cond.methodLink "java/lang/StringLatin1" 38 ⟨"java/lang/Math", "min", "(II)I"⟩ ∈ tblG := atG 542 (by decide +kernel) rfl
theorem d_JL_indexOf_4cfef_21 : decode prog_18_method_22_code 21 = .ok (.istore_n 3, 1) := by decide +kernel
theorem d_JL_indexOf_4cfef_22 : decode prog_18_method_22_code 22 = .ok (.iload_n 2, 1) := by decide +kernel
theorem d_JL_indexOf_4cfef_23 : decode prog_18_method_22_code 23 = .ok (.iload_n 3, 1) := by decide +kernel
theorem d_JL_indexOf_4cfef_29 : decode prog_18_method_22_code 29 = .ok (.aload_n 0, 1) := by decide +kernel
theorem d_JL_indexOf_4cfef_30 : decode prog_18_method_22_code 30 = .ok (.iload_n 1, 1) := by decide +kernel
theorem d_JL_indexOf_4cfef_31 : decode prog_18_method_22_code 31 = .ok (.iload_n 2, 1) := by decide +kernel
theorem d_JL_indexOf_4cfef_32 : decode prog_18_method_22_code 32 = .ok (.iload_n 3, 1) := by decide +kernel
theorem d_JL_indexOf_4cfef_33 : decode prog_18_method_22_code 33 = .ok (.invokestatic 95, 3) := by decide +kernel
theorem k_JL_indexOfChar_4cfef : MOk m_JL_indexOfChar_4cfef 4 ∧ Cond.static m_JL_indexOfChar_4cfef.1 ∈ tblG := ⟨⟨atG 545 (by decide +kernel) rfl, atG 125 (by decide +kernel) rfl, ⟨by decide, by decide⟩, by decide +kernel, by decide⟩, atG 544 (by decide +kernel) rfl⟩
theorem lk_JL_95 : Cond.methodLink "java/lang/StringLatin1" 95 ⟨"java/lang/StringLatin1", "indexOfChar", "([BIII)I"⟩ ∈ tblG := atG 543 (by decide +kernel) rfl
theorem d_JL_indexOf_4cfef_36 : decode prog_18_method_22_code 36 = .ok (.ireturn, 1) := by decide +kernel
theorem d_JL_indexOf_4cfef_27 : decode prog_18_method_22_code 27 = .ok (.iconst (-1), 1) := by decide +kernel
theorem d_JL_indexOf_4cfef_28 : decode prog_18_method_22_code 28 = .ok (.ireturn, 1) := by decide +kernel
theorem d_JL_indexOf_4cfef_24 : decode prog_18_method_22_code 24 = .ok (.if_icmp .lt 5, 3) := by decide +kernel
theorem d_JL_indexOf_4cfef_7 : decode prog_18_method_22_code 7 = .ok (.iconst (-1), 1) := by decide +kernel
theorem d_JL_indexOf_4cfef_8 : decode prog_18_method_22_code 8 = .ok (.ireturn, 1) := by decide +kernel
theorem d_JL_indexOf_4cfef_4 : decode prog_18_method_22_code 4 = .ok (.ifCond .ne 5, 3) := by decide +kernel
def f_JL_indexOf_4cfef_s0 (N : Nat) (a1 : Int32) (a2 : Int32) (a3 : Int32) : Option (Int32) :=
  bnd1 (f_JL_canEncode_9a6ad a1) fun r1 =>
  if r1 = 0 then
    (some (-1))
  else
    (bnd1 (f_JM_max_7cf53 a2 0) fun r11 =>
    bnd1 (f_JM_min_7cf53 a3 7) fun r18 =>
    if r11 < r18 then
      (bnd1 (f_JL_indexOfChar_4cfef_s0 N a1 r11 r18) fun r33 =>
      some r33)
    else
      (some (-1)))
set_option maxHeartbeats 4000000 in
set_option maxRecDepth 20000 in
theorem c_JL_indexOf_4cfef_s0 (Z : ZX) {N : Nat} {σ : Mem} {a1 : Int32} {a2 : Int32} {a3 : Int32} {r : Int32} (h : f_JL_indexOf_4cfef_s0 N a1 a2 a3 = some r) : CI Z 1 m_JL_indexOf_4cfef [.ref (bV (mkB Z) 0), .int a1, .int a2, .int a3] σ r σ := by
  refine Ct.of (by decide +kernel) (Nat.le_of_ble_eq_true rfl) (fun Y => ?_)
  show V (mkB Z) Y m_JL_indexOf_4cfef 1 (QP (mkB Z) Y nC 0 0 (fun v t => v = some (.int r) ∧ t = σ)) 0 0 nC σ 0 [(0, .ref (bV (mkB Z) 0)), (1, .int a1), (2, .int a2), (3, .int a3)] []
  unfold f_JL_indexOf_4cfef_s0 at h
  refine V.iload_n d_JL_indexOf_4cfef_0 rfl 1 rfl ?_
  obtain ⟨r1, h1, h⟩ := bnd1_e h
  refine V.sI (as := [.int a1]) (st := []) (c_JL_canEncode_9a6ad Z h1) k_JL_canEncode_9a6ad lk_JL_88 (by decide) rfl rfl (Nat.le_of_ble_eq_true rfl) d_JL_indexOf_4cfef_1 ?_
  refine V.if_ne (tgt := 9) d_JL_indexOf_4cfef_4 (by decide) (fun hc4 => ?_) (fun hc4 => ?_)
  · replace h := ite_f hc4 h
    refine V.iload_n d_JL_indexOf_4cfef_9 rfl 2 rfl ?_
    refine V.iconst (v := 0) d_JL_indexOf_4cfef_10 (by decide) ?_
    obtain ⟨r11, h1, h⟩ := bnd1_e h
    refine V.sI (as := [.int a2, .int 0]) (st := []) (c_JM_max_7cf53 Z h1) k_JM_max_7cf53 lk_JL_92 (by decide) rfl rfl (Nat.le_of_ble_eq_true rfl) d_JL_indexOf_4cfef_11 ?_
    refine V.istore_n (lv' := [(2, .int r11), (0, .ref (bV (mkB Z) 0)), (1, .int a1), (3, .int a3)]) d_JL_indexOf_4cfef_14 rfl (by decide) rfl ?_
    refine V.iload_n d_JL_indexOf_4cfef_15 rfl 3 rfl ?_
    refine V.aload_n d_JL_indexOf_4cfef_16 rfl 1 rfl ?_
    refine V.slen (x := 7) (by decide) (by decide) d_JL_indexOf_4cfef_17 ?_
    obtain ⟨r18, h1, h⟩ := bnd1_e h
    refine V.sI (as := [.int a3, .int 7]) (st := []) (c_JM_min_7cf53 Z h1) k_JM_min_7cf53 lk_JL_38 (by decide) rfl rfl (Nat.le_of_ble_eq_true rfl) d_JL_indexOf_4cfef_18 ?_
    refine V.istore_n (lv' := [(3, .int r18), (2, .int r11), (0, .ref (bV (mkB Z) 0)), (1, .int a1)]) d_JL_indexOf_4cfef_21 rfl (by decide) rfl ?_
    refine V.iload_n d_JL_indexOf_4cfef_22 rfl 1 rfl ?_
    refine V.iload_n d_JL_indexOf_4cfef_23 rfl 0 rfl ?_
    refine V.icmp_lt (tgt := 29) d_JL_indexOf_4cfef_24 (by decide) (fun hc24 => ?_) (fun hc24 => ?_)
    · replace h := ite_t hc24 h
      refine V.aload_n d_JL_indexOf_4cfef_29 rfl 2 rfl ?_
      refine V.iload_n d_JL_indexOf_4cfef_30 rfl 3 rfl ?_
      refine V.iload_n d_JL_indexOf_4cfef_31 rfl 1 rfl ?_
      refine V.iload_n d_JL_indexOf_4cfef_32 rfl 0 rfl ?_
      obtain ⟨r33, h1, h⟩ := bnd1_e h
      refine V.sI (as := [.ref (bV (mkB Z) 0), .int a1, .int r11, .int r18]) (st := []) (c_JL_indexOfChar_4cfef_s0 Z h1) k_JL_indexOfChar_4cfef lk_JL_95 (by decide) rfl rfl (Nat.le_of_ble_eq_true rfl) d_JL_indexOf_4cfef_33 ?_
      cases h
      exact V.iret rfl d_JL_indexOf_4cfef_36 ⟨rfl, rfl⟩
    · replace h := ite_f hc24 h
      refine V.iconst (v := (-1)) d_JL_indexOf_4cfef_27 (by decide) ?_
      cases h
      exact V.iret rfl d_JL_indexOf_4cfef_28 ⟨rfl, rfl⟩
  · replace h := ite_t hc4 h
    refine V.iconst (v := (-1)) d_JL_indexOf_4cfef_7 (by decide) ?_
    cases h
    exact V.iret rfl d_JL_indexOf_4cfef_8 ⟨rfl, rfl⟩
abbrev m_JS_indexOf_7cf53 : MI := (⟨"java/lang/String", "indexOf", "(II)I"⟩, prog_17_method_80_code, 3, (Option.some Jvm.ClassFile.FieldType.int))
theorem d_JS_indexOf_7cf53_0 : decode prog_17_method_80_code 0 = .ok (.aload_n 0, 1) := by decide +kernel
theorem d_JS_indexOf_7cf53_1 : decode prog_17_method_80_code 1 = .ok (.invokevirtual 492, 3) := by decide +kernel
theorem k_JS_isLatin1_aae02 : MOk m_JS_isLatin1_aae02 0 ∧ IOk m_JS_isLatin1_aae02 := ⟨⟨atG 522 (by decide +kernel) rfl, atG 124 (by decide +kernel) rfl, ⟨by decide, by decide⟩, by decide +kernel, by decide⟩, atG 520 (by decide +kernel) rfl, atG 521 (by decide +kernel) rfl⟩
theorem lk_JS_492 : Cond.methodLink "java/lang/String" 492 ⟨"java/lang/String", "isLatin1", "()Z"⟩ ∈ tblG := atG 519 (by decide +kernel) rfl
theorem d_JS_indexOf_7cf53_4 : decode prog_17_method_80_code 4 = .ok (.ifCond .eq 19, 3) := by decide +kernel
theorem d_JS_indexOf_7cf53_7 : decode prog_17_method_80_code 7 = .ok (.aload_n 0, 1) := by decide +kernel
theorem d_JS_indexOf_7cf53_8 : decode prog_17_method_80_code 8 = .ok (.getfield 9, 3) := by decide +kernel
theorem d_JS_indexOf_7cf53_11 : decode prog_17_method_80_code 11 = .ok (.iload_n 1, 1) := by decide +kernel
theorem d_JS_indexOf_7cf53_12 : decode prog_17_method_80_code 12 = .ok (.iload_n 2, 1) := by decide +kernel
theorem d_JS_indexOf_7cf53_13 : decode prog_17_method_80_code 13 = .ok (.aload_n 0, 1) := by decide +kernel
theorem d_JS_indexOf_7cf53_14 : decode prog_17_method_80_code 14 = .ok (.invokevirtual 505, 3) := by decide +kernel
theorem k_JS_length_8abf5 : MOk m_JS_length_8abf5 0 ∧ IOk m_JS_length_8abf5 := ⟨⟨atG 528 (by decide +kernel) rfl, atG 124 (by decide +kernel) rfl, ⟨by decide, by decide⟩, by decide +kernel, by decide⟩, atG 526 (by decide +kernel) rfl, atG 527 (by decide +kernel) rfl⟩
theorem lk_JS_505 : Cond.methodLink "java/lang/String" 505 ⟨"java/lang/String", "length", "()I"⟩ ∈ tblG := atG 525 (by decide +kernel) rfl
theorem d_JS_indexOf_7cf53_17 : decode prog_17_method_80_code 17 = .ok (.invokestatic 637, 3) := by decide +kernel
theorem k_JL_indexOf_4cfef : MOk m_JL_indexOf_4cfef 4 ∧ Cond.static m_JL_indexOf_4cfef.1 ∈ tblG := ⟨⟨atG 535 (by decide +kernel) rfl, atG 125 (by decide +kernel) rfl, ⟨by decide, by decide⟩, by decide +kernel, by decide⟩, atG 534 (by decide +kernel) rfl⟩
theorem lk_JS_637 : Cond.methodLink "java/lang/String" 637 ⟨"java/lang/StringLatin1", "indexOf", "([BIII)I"⟩ ∈ tblG := atG 533 (by decide +kernel) rfl
theorem d_JS_indexOf_7cf53_20 : decode prog_17_method_80_code 20 = .ok (.goto 16, 3) := by decide +kernel
theorem d_JS_indexOf_7cf53_36 : decode prog_17_method_80_code 36 = .ok (.ireturn, 1) := by decide +kernel
def f_JS_indexOf_7cf53_s0 (N : Nat) (a1 : Int32) (a2 : Int32) : Option (Int32) :=
  bnd1 (f_JS_isLatin1_aae02_s0) fun r1 =>
  grd (decide (¬ r1 = 0)) <|
  bnd1 (f_JS_length_8abf5_s0) fun r14 =>
  bnd1 (f_JL_indexOf_4cfef_s0 N a1 a2 r14) fun r17 =>
  some r17
set_option maxHeartbeats 4000000 in
set_option maxRecDepth 20000 in
theorem c_JS_indexOf_7cf53_s0 (Z : ZX) {N : Nat} {σ : Mem} {a1 : Int32} {a2 : Int32} {r : Int32} (h : f_JS_indexOf_7cf53_s0 N a1 a2 = some r) : CI Z 2 m_JS_indexOf_7cf53 [.ref (bK (mkB Z) 0), .int a1, .int a2] σ r σ := by
  refine Ct.of (by decide +kernel) (Nat.le_of_ble_eq_true rfl) (fun Y => ?_)
  show V (mkB Z) Y m_JS_indexOf_7cf53 2 (QP (mkB Z) Y nC 0 0 (fun v t => v = some (.int r) ∧ t = σ)) 0 0 nC σ 0 [(0, .ref (bK (mkB Z) 0)), (1, .int a1), (2, .int a2)] []
  unfold f_JS_indexOf_7cf53_s0 at h
  refine V.aload_n d_JS_indexOf_7cf53_0 rfl 0 rfl ?_
  obtain ⟨r1, h1, h⟩ := bnd1_e h
  refine V.uI (as := []) (st := []) (by decide) (c_JS_isLatin1_aae02_s0 Z h1) k_JS_isLatin1_aae02 rfl lk_JS_492 (by decide) rfl rfl (Nat.le_of_ble_eq_true rfl) d_JS_indexOf_7cf53_1 ?_
  obtain ⟨gq, h⟩ := grd_e h
  refine V.if_eq (tgt := 23) d_JS_indexOf_7cf53_4 (by decide) (fun hc => absurd hc (of_decide_eq_true gq)) (fun _ => ?_)
  refine V.aload_n d_JS_indexOf_7cf53_7 rfl 0 rfl ?_
  refine V.sval (by decide) sf_JS_9 d_JS_indexOf_7cf53_8 ?_
  refine V.iload_n d_JS_indexOf_7cf53_11 rfl 1 rfl ?_
  refine V.iload_n d_JS_indexOf_7cf53_12 rfl 2 rfl ?_
  refine V.aload_n d_JS_indexOf_7cf53_13 rfl 0 rfl ?_
  obtain ⟨r14, h1, h⟩ := bnd1_e h
  refine V.uI (as := []) (st := [.int a2, .int a1, .ref (bV (mkB Z) 0)]) (by decide) (c_JS_length_8abf5_s0 Z h1) k_JS_length_8abf5 rfl lk_JS_505 (by decide) rfl rfl (Nat.le_of_ble_eq_true rfl) d_JS_indexOf_7cf53_14 ?_
  obtain ⟨r17, h1, h⟩ := bnd1_e h
  refine V.sI (as := [.ref (bV (mkB Z) 0), .int a1, .int a2, .int r14]) (st := []) (c_JL_indexOf_4cfef_s0 Z h1) k_JL_indexOf_4cfef lk_JS_637 (by decide) rfl rfl (Nat.le_of_ble_eq_true rfl) d_JS_indexOf_7cf53_17 ?_
  refine V.goto (tgt := 36) d_JS_indexOf_7cf53_20 (by decide) ?_
  cases h
  exact V.iret rfl d_JS_indexOf_7cf53_36 ⟨rfl, rfl⟩
abbrev m_JS_indexOf_0f7a4 : MI := (⟨"java/lang/String", "indexOf", "(I)I"⟩, prog_17_method_79_code, 2, (Option.some Jvm.ClassFile.FieldType.int))
theorem d_JS_indexOf_0f7a4_0 : decode prog_17_method_79_code 0 = .ok (.aload_n 0, 1) := by decide +kernel
theorem d_JS_indexOf_0f7a4_1 : decode prog_17_method_79_code 1 = .ok (.iload_n 1, 1) := by decide +kernel
theorem d_JS_indexOf_0f7a4_2 : decode prog_17_method_79_code 2 = .ok (.iconst 0, 1) := by decide +kernel
theorem d_JS_indexOf_0f7a4_3 : decode prog_17_method_79_code 3 = .ok (.invokevirtual 633, 3) := by decide +kernel
theorem k_JS_indexOf_7cf53 : MOk m_JS_indexOf_7cf53 2 ∧ IOk m_JS_indexOf_7cf53 := ⟨⟨atG 518 (by decide +kernel) rfl, atG 124 (by decide +kernel) rfl, ⟨by decide, by decide⟩, by decide +kernel, by decide⟩, atG 516 (by decide +kernel) rfl, atG 517 (by decide +kernel) rfl⟩
theorem lk_JS_633 : Cond.methodLink "java/lang/String" 633 ⟨"java/lang/String", "indexOf", "(II)I"⟩ ∈ tblG := atG 515 (by decide +kernel) rfl
theorem d_JS_indexOf_0f7a4_6 : decode prog_17_method_79_code 6 = .ok (.ireturn, 1) := by decide +kernel
def f_JS_indexOf_0f7a4_s0 (N : Nat) (a1 : Int32) : Option (Int32) :=
  bnd1 (f_JS_indexOf_7cf53_s0 N a1 0) fun r3 =>
  some r3
set_option maxHeartbeats 4000000 in
set_option maxRecDepth 20000 in
theorem c_JS_indexOf_0f7a4_s0 (Z : ZX) {N : Nat} {σ : Mem} {a1 : Int32} {r : Int32} (h : f_JS_indexOf_0f7a4_s0 N a1 = some r) : CI Z 3 m_JS_indexOf_0f7a4 [.ref (bK (mkB Z) 0), .int a1] σ r σ := by
  refine Ct.of (by decide +kernel) (Nat.le_of_ble_eq_true rfl) (fun Y => ?_)
  show V (mkB Z) Y m_JS_indexOf_0f7a4 3 (QP (mkB Z) Y nC 0 0 (fun v t => v = some (.int r) ∧ t = σ)) 0 0 nC σ 0 [(0, .ref (bK (mkB Z) 0)), (1, .int a1)] []
  unfold f_JS_indexOf_0f7a4_s0 at h
  refine V.aload_n d_JS_indexOf_0f7a4_0 rfl 0 rfl ?_
  refine V.iload_n d_JS_indexOf_0f7a4_1 rfl 1 rfl ?_
  refine V.iconst (v := 0) d_JS_indexOf_0f7a4_2 (by decide) ?_
  obtain ⟨r3, h1, h⟩ := bnd1_e h
  refine V.uI (as := [.int a1, .int 0]) (st := []) (by decide) (c_JS_indexOf_7cf53_s0 Z h1) k_JS_indexOf_7cf53 rfl lk_JS_633 (by decide) rfl rfl (Nat.le_of_ble_eq_true rfl) d_JS_indexOf_0f7a4_3 ?_
  cases h
  exact V.iret rfl d_JS_indexOf_0f7a4_6 ⟨rfl, rfl⟩
abbrev m_Rd_isOneOf : MI := (⟨"ShadeTown$LawReader", "isOneOf", "(Ljava/lang/String;)Z"⟩, prog_5_method_4_code, 3, (Option.some Jvm.ClassFile.FieldType.boolean))
theorem d_Rd_isOneOf_0 : decode prog_5_method_4_code 0 = .ok (.aload_n 0, 1) := by decide +kernel
theorem d_Rd_isOneOf_1 : decode prog_5_method_4_code 1 = .ok (.invokevirtual 58, 3) := by decide +kernel
theorem k_Rd_sign : MOk m_Rd_sign 0 ∧ IOk m_Rd_sign := ⟨⟨atG 510 (by decide +kernel) rfl, atG 114 (by decide +kernel) rfl, ⟨by decide, by decide⟩, by decide +kernel, by decide⟩, atG 509 (by decide +kernel) rfl, atG 3 (by decide +kernel) rfl⟩
theorem lk_Rd_58 : Cond.methodLink "ShadeTown$LawReader" 58 ⟨"ShadeTown$LawReader", "sign", "()I"⟩ ∈ tblG := atG 507 (by decide +kernel) rfl
theorem d_Rd_isOneOf_4 : decode prog_5_method_4_code 4 = .ok (.istore_n 2, 1) := by decide +kernel
theorem d_Rd_isOneOf_5 : decode prog_5_method_4_code 5 = .ok (.iload_n 2, 1) := by decide +kernel
theorem d_Rd_isOneOf_22 : decode prog_5_method_4_code 22 = .ok (.iconst 0, 1) := by decide +kernel
theorem d_Rd_isOneOf_23 : decode prog_5_method_4_code 23 = .ok (.ireturn, 1) := by decide +kernel
theorem d_Rd_isOneOf_9 : decode prog_5_method_4_code 9 = .ok (.aload_n 1, 1) := by decide +kernel
theorem d_Rd_isOneOf_10 : decode prog_5_method_4_code 10 = .ok (.iload_n 2, 1) := by decide +kernel
theorem d_Rd_isOneOf_11 : decode prog_5_method_4_code 11 = .ok (.i2c, 1) := by decide +kernel
theorem d_Rd_isOneOf_12 : decode prog_5_method_4_code 12 = .ok (.invokevirtual 61, 3) := by decide +kernel
theorem k_JS_indexOf_0f7a4 : MOk m_JS_indexOf_0f7a4 1 ∧ IOk m_JS_indexOf_0f7a4 := ⟨⟨atG 514 (by decide +kernel) rfl, atG 124 (by decide +kernel) rfl, ⟨by decide, by decide⟩, by decide +kernel, by decide⟩, atG 512 (by decide +kernel) rfl, atG 513 (by decide +kernel) rfl⟩
theorem lk_Rd_61 : Cond.methodLink "ShadeTown$LawReader" 61 ⟨"java/lang/String", "indexOf", "(I)I"⟩ ∈ tblG := atG 511 (by decide +kernel) rfl
theorem d_Rd_isOneOf_18 : decode prog_5_method_4_code 18 = .ok (.iconst 1, 1) := by decide +kernel
theorem d_Rd_isOneOf_19 : decode prog_5_method_4_code 19 = .ok (.goto 4, 3) := by decide +kernel
theorem d_Rd_isOneOf_15 : decode prog_5_method_4_code 15 = .ok (.ifCond .lt 7, 3) := by decide +kernel
theorem d_Rd_isOneOf_6 : decode prog_5_method_4_code 6 = .ok (.ifCond .lt 16, 3) := by decide +kernel
def f_Rd_isOneOf_s0 (N : Nat) (σ : Mem) : Option (Int32) :=
  bnd1 (f_Rd_sign σ) fun r1 =>
  if r1 < 0 then
    (some 0)
  else
    (bnd1 (f_JS_indexOf_0f7a4_s0 N ((r1.toUInt32 % 65536).toInt32)) fun r12 =>
    if r12 < 0 then
      (some 0)
    else
      (some 1))
set_option maxHeartbeats 4000000 in
set_option maxRecDepth 20000 in
theorem c_Rd_isOneOf_s0 (Z : ZX) {N : Nat} {σ : Mem} {r : Int32} (h : f_Rd_isOneOf_s0 N σ = some r) : CI Z 4 m_Rd_isOneOf [rf Z 17, .ref (bK (mkB Z) 0)] σ r σ := by
  refine Ct.of (by decide +kernel) (Nat.le_of_ble_eq_true rfl) (fun Y => ?_)
  show V (mkB Z) Y m_Rd_isOneOf 4 (QP (mkB Z) Y nC 0 0 (fun v t => v = some (.int r) ∧ t = σ)) 0 0 nC σ 0 [(0, rf Z 17), (1, .ref (bK (mkB Z) 0))] []
  unfold f_Rd_isOneOf_s0 at h
  refine V.aload_n d_Rd_isOneOf_0 rfl 0 rfl ?_
  obtain ⟨r1, h1, h⟩ := bnd1_e h
  refine V.vI (as := []) (st := []) (c_Rd_sign Z h1) k_Rd_sign lk_Rd_58 (by decide) rfl (by decide) ly_17 ok_Rd.1 rfl (Nat.le_of_ble_eq_true rfl) d_Rd_isOneOf_1 ?_
  refine V.istore_n (lv' := [(2, .int r1), (0, rf Z 17), (1, .ref (bK (mkB Z) 0))]) d_Rd_isOneOf_4 rfl (by decide) rfl ?_
  refine V.iload_n d_Rd_isOneOf_5 rfl 0 rfl ?_
  refine V.if_lt (tgt := 22) d_Rd_isOneOf_6 (by decide) (fun hc6 => ?_) (fun hc6 => ?_)
  · replace h := ite_t hc6 h
    refine V.iconst (v := 0) d_Rd_isOneOf_22 (by decide) ?_
    cases h
    exact V.zret rfl rfl d_Rd_isOneOf_23 ⟨rfl, rfl⟩
  · replace h := ite_f hc6 h
    refine V.aload_n d_Rd_isOneOf_9 rfl 2 rfl ?_
    refine V.iload_n d_Rd_isOneOf_10 rfl 0 rfl ?_
    refine V.i2c d_Rd_isOneOf_11 ?_
    obtain ⟨r12, h1, h⟩ := bnd1_e h
    refine V.uI (as := [.int ((r1.toUInt32 % 65536).toInt32)]) (st := []) (by decide) (c_JS_indexOf_0f7a4_s0 Z h1) k_JS_indexOf_0f7a4 rfl lk_Rd_61 (by decide) rfl rfl (Nat.le_of_ble_eq_true rfl) d_Rd_isOneOf_12 ?_
    refine V.if_lt (tgt := 22) d_Rd_isOneOf_15 (by decide) (fun hc15 => ?_) (fun hc15 => ?_)
    · replace h := ite_t hc15 h
      refine V.iconst (v := 0) d_Rd_isOneOf_22 (by decide) ?_
      cases h
      exact V.zret rfl rfl d_Rd_isOneOf_23 ⟨rfl, rfl⟩
    · replace h := ite_f hc15 h
      refine V.iconst (v := 1) d_Rd_isOneOf_18 (by decide) ?_
      refine V.goto (tgt := 23) d_Rd_isOneOf_19 (by decide) ?_
      cases h
      exact V.zret rfl rfl d_Rd_isOneOf_23 ⟨rfl, rfl⟩
abbrev m_La_clauses : MI := (⟨"ShadeTown$Law", "clauses", "()I"⟩, prog_4_method_2_code, 1, (Option.some Jvm.ClassFile.FieldType.int))
theorem d_La_clauses_0 : decode prog_4_method_2_code 0 = .ok (.aload_n 0, 1) := by decide +kernel
theorem d_La_clauses_1 : decode prog_4_method_2_code 1 = .ok (.getfield 28, 3) := by decide +kernel
theorem d_La_clauses_4 : decode prog_4_method_2_code 4 = .ok (.ireturn, 1) := by decide +kernel
def f_La_clauses_b (σ : Mem) : Option (Int32) :=
  some (mI σ 10 5)
set_option maxHeartbeats 4000000 in
set_option maxRecDepth 20000 in
theorem c_La_clauses_b (Z : ZX) {σ : Mem} {r : Int32} (h : f_La_clauses_b σ = some r) : CI Z 0 m_La_clauses [rf Z 10] σ r σ := by
  refine Ct.of (by decide +kernel) (Nat.le_of_ble_eq_true rfl) (fun Y => ?_)
  show V (mkB Z) Y m_La_clauses 0 (QP (mkB Z) Y nC 0 0 (fun v t => v = some (.int r) ∧ t = σ)) 0 0 nC σ 0 [(0, rf Z 10)] []
  unfold f_La_clauses_b at h
  refine V.aload_n d_La_clauses_0 rfl 0 rfl ?_
  refine V.getI ok_La fl_La_28 (by decide) (by decide) ly_10 rfl d_La_clauses_1 ?_
  cases h
  exact V.iret rfl d_La_clauses_4 ⟨rfl, rfl⟩
abbrev m_La_beginClause : MI := (⟨"ShadeTown$Law", "beginClause", "(I)V"⟩, prog_4_method_5_code, 2, (Option.none : Option Jvm.ClassFile.FieldType))
theorem d_La_beginClause_0 : decode prog_4_method_5_code 0 = .ok (.aload_n 0, 1) := by decide +kernel
theorem d_La_beginClause_1 : decode prog_4_method_5_code 1 = .ok (.getfield 28, 3) := by decide +kernel
theorem d_La_beginClause_4 : decode prog_4_method_5_code 4 = .ok (.bipush 16, 2) := by decide +kernel
theorem d_La_beginClause_45 : decode prog_4_method_5_code 45 = .ok (.return_, 1) := by decide +kernel
theorem d_La_beginClause_9 : decode prog_4_method_5_code 9 = .ok (.aload_n 0, 1) := by decide +kernel
theorem fl_La_19 : FL "ShadeTown$Law" 19 T_La 2 := atG 162 (by decide +kernel) rfl
theorem d_La_beginClause_10 : decode prog_4_method_5_code 10 = .ok (.getfield 19, 3) := by decide +kernel
theorem d_La_beginClause_13 : decode prog_4_method_5_code 13 = .ok (.aload_n 0, 1) := by decide +kernel
theorem d_La_beginClause_14 : decode prog_4_method_5_code 14 = .ok (.getfield 28, 3) := by decide +kernel
theorem d_La_beginClause_17 : decode prog_4_method_5_code 17 = .ok (.iload_n 1, 1) := by decide +kernel
theorem d_La_beginClause_18 : decode prog_4_method_5_code 18 = .ok (.iastore, 1) := by decide +kernel
theorem d_La_beginClause_19 : decode prog_4_method_5_code 19 = .ok (.aload_n 0, 1) := by decide +kernel
theorem fl_La_22 : FL "ShadeTown$Law" 22 T_La 3 := atG 163 (by decide +kernel) rfl
theorem d_La_beginClause_20 : decode prog_4_method_5_code 20 = .ok (.getfield 22, 3) := by decide +kernel
theorem d_La_beginClause_23 : decode prog_4_method_5_code 23 = .ok (.aload_n 0, 1) := by decide +kernel
theorem d_La_beginClause_24 : decode prog_4_method_5_code 24 = .ok (.getfield 28, 3) := by decide +kernel
theorem d_La_beginClause_27 : decode prog_4_method_5_code 27 = .ok (.aload_n 0, 1) := by decide +kernel
theorem d_La_beginClause_28 : decode prog_4_method_5_code 28 = .ok (.getfield 15, 3) := by decide +kernel
theorem d_La_beginClause_31 : decode prog_4_method_5_code 31 = .ok (.iastore, 1) := by decide +kernel
theorem d_La_beginClause_32 : decode prog_4_method_5_code 32 = .ok (.aload_n 0, 1) := by decide +kernel
theorem fl_La_25 : FL "ShadeTown$Law" 25 T_La 4 := atG 164 (by decide +kernel) rfl
theorem d_La_beginClause_33 : decode prog_4_method_5_code 33 = .ok (.getfield 25, 3) := by decide +kernel
theorem d_La_beginClause_36 : decode prog_4_method_5_code 36 = .ok (.aload_n 0, 1) := by decide +kernel
theorem d_La_beginClause_37 : decode prog_4_method_5_code 37 = .ok (.getfield 28, 3) := by decide +kernel
theorem d_La_beginClause_40 : decode prog_4_method_5_code 40 = .ok (.aload_n 0, 1) := by decide +kernel
theorem d_La_beginClause_41 : decode prog_4_method_5_code 41 = .ok (.getfield 15, 3) := by decide +kernel
theorem d_La_beginClause_44 : decode prog_4_method_5_code 44 = .ok (.iastore, 1) := by decide +kernel
theorem d_La_beginClause_6 : decode prog_4_method_5_code 6 = .ok (.if_icmp .ge 39, 3) := by decide +kernel
def f_La_beginClause_b (σ : Mem) (a1 : Int32) : Option (Mem) :=
  if 16 ≤ (mI σ 10 5) then
    (some σ)
  else
    (grd (inb (mI σ 10 5) 16) <|
    letv (sI σ 12 ((mI σ 10 5).toNatClampNeg) a1) fun σ18 =>
    grd (inb (mI σ18 10 5) 16) <|
    letv (sI σ18 13 ((mI σ18 10 5).toNatClampNeg) (mI σ18 10 1)) fun σ31 =>
    grd (inb (mI σ31 10 5) 16) <|
    letv (sI σ31 14 ((mI σ31 10 5).toNatClampNeg) (mI σ31 10 1)) fun σ44 =>
    some σ44)
set_option maxHeartbeats 4000000 in
set_option maxRecDepth 20000 in
theorem c_La_beginClause_b (Z : ZX) {σ : Mem} {a1 : Int32} {σ' : Mem} (h : f_La_beginClause_b σ a1 = some σ') : CN Z 0 m_La_beginClause [rf Z 10, .int a1] σ σ' := by
  refine Ct.of (by decide +kernel) (Nat.le_of_ble_eq_true rfl) (fun Y => ?_)
  show V (mkB Z) Y m_La_beginClause 0 (QP (mkB Z) Y nC 0 0 (fun v t => v = none ∧ t = σ')) 0 0 nC σ 0 [(0, rf Z 10), (1, .int a1)] []
  unfold f_La_beginClause_b at h
  refine V.aload_n d_La_beginClause_0 rfl 0 rfl ?_
  refine V.getI ok_La fl_La_28 (by decide) (by decide) ly_10 rfl d_La_beginClause_1 ?_
  refine V.bipush (v := 16) d_La_beginClause_4 (by decide) ?_
  refine V.icmp_ge (tgt := 45) d_La_beginClause_6 (by decide) (fun hc6 => ?_) (fun hc6 => ?_)
  · replace h := ite_t hc6 h
    cases h
    exact V.vret rfl d_La_beginClause_45 ⟨rfl, rfl⟩
  · replace h := ite_f hc6 h
    refine V.aload_n d_La_beginClause_9 rfl 0 rfl ?_
    refine V.getR (r := 12) ok_La fl_La_19 (by decide) (by decide) ly_10 rfl d_La_beginClause_10 ?_
    refine V.aload_n d_La_beginClause_13 rfl 0 rfl ?_
    refine V.getI ok_La fl_La_28 (by decide) (by decide) ly_10 rfl d_La_beginClause_14 ?_
    refine V.iload_n d_La_beginClause_17 rfl 1 rfl ?_
    obtain ⟨gq, h⟩ := grd_e h
    obtain ⟨σ18, e_σ18, h⟩ := letv_e h
    refine V.wa (by decide) ly_12 (inb_e gq) rfl d_La_beginClause_18 e_σ18 ?_
    refine V.aload_n d_La_beginClause_19 rfl 0 rfl ?_
    refine V.getR (r := 13) ok_La fl_La_22 (by decide) (by decide) ly_10 rfl d_La_beginClause_20 ?_
    refine V.aload_n d_La_beginClause_23 rfl 0 rfl ?_
    refine V.getI ok_La fl_La_28 (by decide) (by decide) ly_10 rfl d_La_beginClause_24 ?_
    refine V.aload_n d_La_beginClause_27 rfl 0 rfl ?_
    refine V.getI ok_La fl_La_15 (by decide) (by decide) ly_10 rfl d_La_beginClause_28 ?_
    obtain ⟨gq, h⟩ := grd_e h
    obtain ⟨σ31, e_σ31, h⟩ := letv_e h
    refine V.wa (by decide) ly_13 (inb_e gq) rfl d_La_beginClause_31 e_σ31 ?_
    refine V.aload_n d_La_beginClause_32 rfl 0 rfl ?_
    refine V.getR (r := 14) ok_La fl_La_25 (by decide) (by decide) ly_10 rfl d_La_beginClause_33 ?_
    refine V.aload_n d_La_beginClause_36 rfl 0 rfl ?_
    refine V.getI ok_La fl_La_28 (by decide) (by decide) ly_10 rfl d_La_beginClause_37 ?_
    refine V.aload_n d_La_beginClause_40 rfl 0 rfl ?_
    refine V.getI ok_La fl_La_15 (by decide) (by decide) ly_10 rfl d_La_beginClause_41 ?_
    obtain ⟨gq, h⟩ := grd_e h
    obtain ⟨σ44, e_σ44, h⟩ := letv_e h
    refine V.wa (by decide) ly_14 (inb_e gq) rfl d_La_beginClause_44 e_σ44 ?_
    cases h
    exact V.vret rfl d_La_beginClause_45 ⟨rfl, rfl⟩
abbrev m_La_beginCondition : MI := (⟨"ShadeTown$Law", "beginCondition", "()V"⟩, prog_4_method_6_code, 1, (Option.none : Option Jvm.ClassFile.FieldType))
theorem d_La_beginCondition_0 : decode prog_4_method_6_code 0 = .ok (.aload_n 0, 1) := by decide +kernel
theorem d_La_beginCondition_1 : decode prog_4_method_6_code 1 = .ok (.getfield 28, 3) := by decide +kernel
theorem d_La_beginCondition_4 : decode prog_4_method_6_code 4 = .ok (.bipush 16, 2) := by decide +kernel
theorem d_La_beginCondition_22 : decode prog_4_method_6_code 22 = .ok (.return_, 1) := by decide +kernel
theorem d_La_beginCondition_9 : decode prog_4_method_6_code 9 = .ok (.aload_n 0, 1) := by decide +kernel
theorem d_La_beginCondition_10 : decode prog_4_method_6_code 10 = .ok (.getfield 25, 3) := by decide +kernel
theorem d_La_beginCondition_13 : decode prog_4_method_6_code 13 = .ok (.aload_n 0, 1) := by decide +kernel
theorem d_La_beginCondition_14 : decode prog_4_method_6_code 14 = .ok (.getfield 28, 3) := by decide +kernel
theorem d_La_beginCondition_17 : decode prog_4_method_6_code 17 = .ok (.aload_n 0, 1) := by decide +kernel
theorem d_La_beginCondition_18 : decode prog_4_method_6_code 18 = .ok (.getfield 15, 3) := by decide +kernel
theorem d_La_beginCondition_21 : decode prog_4_method_6_code 21 = .ok (.iastore, 1) := by decide +kernel
theorem d_La_beginCondition_6 : decode prog_4_method_6_code 6 = .ok (.if_icmp .ge 16, 3) := by decide +kernel
def f_La_beginCondition_b (σ : Mem) : Option (Mem) :=
  if 16 ≤ (mI σ 10 5) then
    (some σ)
  else
    (grd (inb (mI σ 10 5) 16) <|
    letv (sI σ 14 ((mI σ 10 5).toNatClampNeg) (mI σ 10 1)) fun σ21 =>
    some σ21)
set_option maxHeartbeats 4000000 in
set_option maxRecDepth 20000 in
theorem c_La_beginCondition_b (Z : ZX) {σ : Mem} {σ' : Mem} (h : f_La_beginCondition_b σ = some σ') : CN Z 0 m_La_beginCondition [rf Z 10] σ σ' := by
  refine Ct.of (by decide +kernel) (Nat.le_of_ble_eq_true rfl) (fun Y => ?_)
  show V (mkB Z) Y m_La_beginCondition 0 (QP (mkB Z) Y nC 0 0 (fun v t => v = none ∧ t = σ')) 0 0 nC σ 0 [(0, rf Z 10)] []
  unfold f_La_beginCondition_b at h
  refine V.aload_n d_La_beginCondition_0 rfl 0 rfl ?_
  refine V.getI ok_La fl_La_28 (by decide) (by decide) ly_10 rfl d_La_beginCondition_1 ?_
  refine V.bipush (v := 16) d_La_beginCondition_4 (by decide) ?_
  refine V.icmp_ge (tgt := 22) d_La_beginCondition_6 (by decide) (fun hc6 => ?_) (fun hc6 => ?_)
  · replace h := ite_t hc6 h
    cases h
    exact V.vret rfl d_La_beginCondition_22 ⟨rfl, rfl⟩
  · replace h := ite_f hc6 h
    refine V.aload_n d_La_beginCondition_9 rfl 0 rfl ?_
    refine V.getR (r := 14) ok_La fl_La_25 (by decide) (by decide) ly_10 rfl d_La_beginCondition_10 ?_
    refine V.aload_n d_La_beginCondition_13 rfl 0 rfl ?_
    refine V.getI ok_La fl_La_28 (by decide) (by decide) ly_10 rfl d_La_beginCondition_14 ?_
    refine V.aload_n d_La_beginCondition_17 rfl 0 rfl ?_
    refine V.getI ok_La fl_La_15 (by decide) (by decide) ly_10 rfl d_La_beginCondition_18 ?_
    obtain ⟨gq, h⟩ := grd_e h
    obtain ⟨σ21, e_σ21, h⟩ := letv_e h
    refine V.wa (by decide) ly_14 (inb_e gq) rfl d_La_beginCondition_21 e_σ21 ?_
    cases h
    exact V.vret rfl d_La_beginCondition_22 ⟨rfl, rfl⟩
abbrev m_Rd_step : MI := (⟨"ShadeTown$LawReader", "step", "(C)Z"⟩, prog_5_method_6_code, 2, (Option.some Jvm.ClassFile.FieldType.boolean))
theorem d_Rd_step_0 : decode prog_5_method_6_code 0 = .ok (.aload_n 0, 1) := by decide +kernel
theorem d_Rd_step_1 : decode prog_5_method_6_code 1 = .ok (.invokevirtual 58, 3) := by decide +kernel
theorem d_Rd_step_4 : decode prog_5_method_6_code 4 = .ok (.iload_n 1, 1) := by decide +kernel
theorem d_Rd_step_14 : decode prog_5_method_6_code 14 = .ok (.aload_n 0, 1) := by decide +kernel
theorem d_Rd_step_15 : decode prog_5_method_6_code 15 = .ok (.dup, 1) := by decide +kernel
theorem d_Rd_step_16 : decode prog_5_method_6_code 16 = .ok (.getfield 19, 3) := by decide +kernel
theorem d_Rd_step_19 : decode prog_5_method_6_code 19 = .ok (.iconst 1, 1) := by decide +kernel
theorem d_Rd_step_20 : decode prog_5_method_6_code 20 = .ok (.iadd, 1) := by decide +kernel
theorem d_Rd_step_21 : decode prog_5_method_6_code 21 = .ok (.putfield 19, 3) := by decide +kernel
theorem d_Rd_step_24 : decode prog_5_method_6_code 24 = .ok (.iconst 1, 1) := by decide +kernel
theorem d_Rd_step_25 : decode prog_5_method_6_code 25 = .ok (.ireturn, 1) := by decide +kernel
theorem d_Rd_step_8 : decode prog_5_method_6_code 8 = .ok (.aload_n 0, 1) := by decide +kernel
theorem d_Rd_step_9 : decode prog_5_method_6_code 9 = .ok (.iconst 1, 1) := by decide +kernel
theorem d_Rd_step_10 : decode prog_5_method_6_code 10 = .ok (.invokevirtual 66, 3) := by decide +kernel
theorem k_Rd_fail : MOk m_Rd_fail 1 ∧ IOk m_Rd_fail := ⟨⟨atG 598 (by decide +kernel) rfl, atG 114 (by decide +kernel) rfl, ⟨by decide, by decide⟩, by decide +kernel, by decide⟩, atG 597 (by decide +kernel) rfl, atG 4 (by decide +kernel) rfl⟩
theorem lk_Rd_66 : Cond.methodLink "ShadeTown$LawReader" 66 ⟨"ShadeTown$LawReader", "fail", "(I)Z"⟩ ∈ tblG := atG 595 (by decide +kernel) rfl
theorem d_Rd_step_13 : decode prog_5_method_6_code 13 = .ok (.ireturn, 1) := by decide +kernel
theorem d_Rd_step_5 : decode prog_5_method_6_code 5 = .ok (.if_icmp .eq 9, 3) := by decide +kernel
def f_Rd_step (σ : Mem) (a1 : Int32) : Option (Int32 × Mem) :=
  bnd1 (f_Rd_sign σ) fun r1 =>
  if r1 = a1 then
    (letv (sI σ 17 4 ((mI σ 17 4) + 1)) fun σ21 =>
    some (1, σ21))
  else
    (bnd2 (f_Rd_fail σ 1) fun r10 σ10 =>
    grd (decide (r10 &&& 1 = r10)) (some (r10, σ10)))
set_option maxHeartbeats 4000000 in
set_option maxRecDepth 20000 in
theorem c_Rd_step (Z : ZX) {σ : Mem} {a1 : Int32} {r : Int32} {σ' : Mem} (h : f_Rd_step σ a1 = some (r, σ')) : CI Z 1 m_Rd_step [rf Z 17, .int a1] σ r σ' := by
  refine Ct.of (by decide +kernel) (Nat.le_of_ble_eq_true rfl) (fun Y => ?_)
  show V (mkB Z) Y m_Rd_step 1 (QP (mkB Z) Y nC 0 0 (fun v t => v = some (.int r) ∧ t = σ')) 0 0 nC σ 0 [(0, rf Z 17), (1, .int a1)] []
  unfold f_Rd_step at h
  refine V.aload_n d_Rd_step_0 rfl 0 rfl ?_
  obtain ⟨r1, h1, h⟩ := bnd1_e h
  refine V.vI (as := []) (st := []) (c_Rd_sign Z h1) k_Rd_sign lk_Rd_58 (by decide) rfl (by decide) ly_17 ok_Rd.1 rfl (Nat.le_of_ble_eq_true rfl) d_Rd_step_1 ?_
  refine V.iload_n d_Rd_step_4 rfl 1 rfl ?_
  refine V.icmp_eq (tgt := 14) d_Rd_step_5 (by decide) (fun hc5 => ?_) (fun hc5 => ?_)
  · replace h := ite_t hc5 h
    refine V.aload_n d_Rd_step_14 rfl 0 rfl ?_
    refine V.dup d_Rd_step_15 rfl ?_
    refine V.getI ok_Rd fl_Rd_19 (by decide) (by decide) ly_17 rfl d_Rd_step_16 ?_
    refine V.iconst (v := 1) d_Rd_step_19 (by decide) ?_
    refine V.iadd d_Rd_step_20 ?_
    obtain ⟨σ21, e_σ21, h⟩ := letv_e h
    refine V.putI ok_Rd fl_Rd_19 (by decide) (by decide) ly_17 rfl rfl rfl rfl d_Rd_step_21 (V.mem e_σ21 ?_)
    refine V.iconst (v := 1) d_Rd_step_24 (by decide) ?_
    cases h
    exact V.zret rfl rfl d_Rd_step_25 ⟨rfl, rfl⟩
  · replace h := ite_f hc5 h
    refine V.aload_n d_Rd_step_8 rfl 0 rfl ?_
    refine V.iconst (v := 1) d_Rd_step_9 (by decide) ?_
    obtain ⟨r10, σ10, h1, h⟩ := bnd2_e h
    refine V.vI (as := [.int 1]) (st := []) (c_Rd_fail Z h1) k_Rd_fail lk_Rd_66 (by decide) rfl (by decide) ly_17 ok_Rd.1 rfl (Nat.le_of_ble_eq_true rfl) d_Rd_step_10 ?_
    obtain ⟨hz, h⟩ := grd_e h
    have hz := congrArg Value.int (of_decide_eq_true hz)
    cases h
    exact V.zret rfl hz d_Rd_step_13 ⟨rfl, rfl⟩
abbrev m_La_put : MI := (⟨"ShadeTown$Law", "put", "(I)V"⟩, prog_4_method_8_code, 2, (Option.none : Option Jvm.ClassFile.FieldType))
theorem d_La_put_0 : decode prog_4_method_8_code 0 = .ok (.aload_n 0, 1) := by decide +kernel
theorem d_La_put_1 : decode prog_4_method_8_code 1 = .ok (.getfield 15, 3) := by decide +kernel
theorem d_La_put_4 : decode prog_4_method_8_code 4 = .ok (.sipush 513, 3) := by decide +kernel
theorem d_La_put_30 : decode prog_4_method_8_code 30 = .ok (.return_, 1) := by decide +kernel
theorem d_La_put_10 : decode prog_4_method_8_code 10 = .ok (.aload_n 0, 1) := by decide +kernel
theorem fl_La_11 : FL "ShadeTown$Law" 11 T_La 0 := atG 160 (by decide +kernel) rfl
theorem d_La_put_11 : decode prog_4_method_8_code 11 = .ok (.getfield 11, 3) := by decide +kernel
theorem d_La_put_14 : decode prog_4_method_8_code 14 = .ok (.aload_n 0, 1) := by decide +kernel
theorem d_La_put_15 : decode prog_4_method_8_code 15 = .ok (.getfield 15, 3) := by decide +kernel
theorem d_La_put_18 : decode prog_4_method_8_code 18 = .ok (.iload_n 1, 1) := by decide +kernel
theorem d_La_put_19 : decode prog_4_method_8_code 19 = .ok (.iastore, 1) := by decide +kernel
theorem d_La_put_20 : decode prog_4_method_8_code 20 = .ok (.aload_n 0, 1) := by decide +kernel
theorem d_La_put_21 : decode prog_4_method_8_code 21 = .ok (.dup, 1) := by decide +kernel
theorem d_La_put_22 : decode prog_4_method_8_code 22 = .ok (.getfield 15, 3) := by decide +kernel
theorem d_La_put_25 : decode prog_4_method_8_code 25 = .ok (.iconst 1, 1) := by decide +kernel
theorem d_La_put_26 : decode prog_4_method_8_code 26 = .ok (.iadd, 1) := by decide +kernel
theorem d_La_put_27 : decode prog_4_method_8_code 27 = .ok (.putfield 15, 3) := by decide +kernel
theorem d_La_put_7 : decode prog_4_method_8_code 7 = .ok (.if_icmp .ge 23, 3) := by decide +kernel
def f_La_put_b (σ : Mem) (a1 : Int32) : Option (Mem) :=
  if 513 ≤ (mI σ 10 1) then
    (some σ)
  else
    (grd (inb (mI σ 10 1) 513) <|
    letv (sI σ 11 ((mI σ 10 1).toNatClampNeg) a1) fun σ19 =>
    letv (sI σ19 10 1 ((mI σ19 10 1) + 1)) fun σ27 =>
    some σ27)
set_option maxHeartbeats 4000000 in
set_option maxRecDepth 20000 in
theorem c_La_put_b (Z : ZX) {σ : Mem} {a1 : Int32} {σ' : Mem} (h : f_La_put_b σ a1 = some σ') : CN Z 0 m_La_put [rf Z 10, .int a1] σ σ' := by
  refine Ct.of (by decide +kernel) (Nat.le_of_ble_eq_true rfl) (fun Y => ?_)
  show V (mkB Z) Y m_La_put 0 (QP (mkB Z) Y nC 0 0 (fun v t => v = none ∧ t = σ')) 0 0 nC σ 0 [(0, rf Z 10), (1, .int a1)] []
  unfold f_La_put_b at h
  refine V.aload_n d_La_put_0 rfl 0 rfl ?_
  refine V.getI ok_La fl_La_15 (by decide) (by decide) ly_10 rfl d_La_put_1 ?_
  refine V.sipush (v := 513) d_La_put_4 (by decide) ?_
  refine V.icmp_ge (tgt := 30) d_La_put_7 (by decide) (fun hc7 => ?_) (fun hc7 => ?_)
  · replace h := ite_t hc7 h
    cases h
    exact V.vret rfl d_La_put_30 ⟨rfl, rfl⟩
  · replace h := ite_f hc7 h
    refine V.aload_n d_La_put_10 rfl 0 rfl ?_
    refine V.getR (r := 11) ok_La fl_La_11 (by decide) (by decide) ly_10 rfl d_La_put_11 ?_
    refine V.aload_n d_La_put_14 rfl 0 rfl ?_
    refine V.getI ok_La fl_La_15 (by decide) (by decide) ly_10 rfl d_La_put_15 ?_
    refine V.iload_n d_La_put_18 rfl 1 rfl ?_
    obtain ⟨gq, h⟩ := grd_e h
    obtain ⟨σ19, e_σ19, h⟩ := letv_e h
    refine V.wa (by decide) ly_11 (inb_e gq) rfl d_La_put_19 e_σ19 ?_
    refine V.aload_n d_La_put_20 rfl 0 rfl ?_
    refine V.dup d_La_put_21 rfl ?_
    refine V.getI ok_La fl_La_15 (by decide) (by decide) ly_10 rfl d_La_put_22 ?_
    refine V.iconst (v := 1) d_La_put_25 (by decide) ?_
    refine V.iadd d_La_put_26 ?_
    obtain ⟨σ27, e_σ27, h⟩ := letv_e h
    refine V.putI ok_La fl_La_15 (by decide) (by decide) ly_10 rfl rfl rfl rfl d_La_put_27 (V.mem e_σ27 ?_)
    cases h
    exact V.vret rfl d_La_put_30 ⟨rfl, rfl⟩
abbrev m_La_putJump : MI := (⟨"ShadeTown$Law", "putJump", "(II)I"⟩, prog_4_method_9_code, 3, (Option.some Jvm.ClassFile.FieldType.int))
theorem d_La_putJump_0 : decode prog_4_method_9_code 0 = .ok (.aload_n 0, 1) := by decide +kernel
theorem d_La_putJump_1 : decode prog_4_method_9_code 1 = .ok (.iload_n 1, 1) := by decide +kernel
theorem d_La_putJump_2 : decode prog_4_method_9_code 2 = .ok (.invokevirtual 43, 3) := by decide +kernel
theorem k_La_put : MOk m_La_put 1 ∧ IOk m_La_put := ⟨⟨atG 638 (by decide +kernel) rfl, atG 113 (by decide +kernel) rfl, ⟨by decide, by decide⟩, by decide +kernel, by decide⟩, atG 636 (by decide +kernel) rfl, atG 637 (by decide +kernel) rfl⟩
theorem lk_La_43 : Cond.methodLink "ShadeTown$Law" 43 ⟨"ShadeTown$Law", "put", "(I)V"⟩ ∈ tblG := atG 667 (by decide +kernel) rfl
theorem d_La_putJump_5 : decode prog_4_method_9_code 5 = .ok (.aload_n 0, 1) := by decide +kernel
theorem d_La_putJump_6 : decode prog_4_method_9_code 6 = .ok (.iload_n 2, 1) := by decide +kernel
theorem d_La_putJump_7 : decode prog_4_method_9_code 7 = .ok (.invokevirtual 43, 3) := by decide +kernel
theorem d_La_putJump_10 : decode prog_4_method_9_code 10 = .ok (.aload_n 0, 1) := by decide +kernel
theorem d_La_putJump_11 : decode prog_4_method_9_code 11 = .ok (.getfield 15, 3) := by decide +kernel
theorem d_La_putJump_14 : decode prog_4_method_9_code 14 = .ok (.iconst 1, 1) := by decide +kernel
theorem d_La_putJump_15 : decode prog_4_method_9_code 15 = .ok (.isub, 1) := by decide +kernel
theorem d_La_putJump_16 : decode prog_4_method_9_code 16 = .ok (.ireturn, 1) := by decide +kernel
def f_La_putJump_b (σ : Mem) (a1 : Int32) (a2 : Int32) : Option (Int32 × Mem) :=
  bnd1 (f_La_put_b σ a1) fun σ2 =>
  bnd1 (f_La_put_b σ2 a2) fun σ7 =>
  some ((mI σ7 10 1) - 1, σ7)
set_option maxHeartbeats 4000000 in
set_option maxRecDepth 20000 in
theorem c_La_putJump_b (Z : ZX) {σ : Mem} {a1 : Int32} {a2 : Int32} {r : Int32} {σ' : Mem} (h : f_La_putJump_b σ a1 a2 = some (r, σ')) : CI Z 1 m_La_putJump [rf Z 10, .int a1, .int a2] σ r σ' := by
  refine Ct.of (by decide +kernel) (Nat.le_of_ble_eq_true rfl) (fun Y => ?_)
  show V (mkB Z) Y m_La_putJump 1 (QP (mkB Z) Y nC 0 0 (fun v t => v = some (.int r) ∧ t = σ')) 0 0 nC σ 0 [(0, rf Z 10), (1, .int a1), (2, .int a2)] []
  unfold f_La_putJump_b at h
  refine V.aload_n d_La_putJump_0 rfl 0 rfl ?_
  refine V.iload_n d_La_putJump_1 rfl 1 rfl ?_
  obtain ⟨σ2, h1, h⟩ := bnd1_e h
  refine V.vN (as := [.int a1]) (st := []) (c_La_put_b Z h1) k_La_put lk_La_43 (by decide) rfl (by decide) ly_10 ok_La.1 rfl (Nat.le_of_ble_eq_true rfl) d_La_putJump_2 ?_
  refine V.aload_n d_La_putJump_5 rfl 0 rfl ?_
  refine V.iload_n d_La_putJump_6 rfl 2 rfl ?_
  obtain ⟨σ7, h1, h⟩ := bnd1_e h
  refine V.vN (as := [.int a2]) (st := []) (c_La_put_b Z h1) k_La_put lk_La_43 (by decide) rfl (by decide) ly_10 ok_La.1 rfl (Nat.le_of_ble_eq_true rfl) d_La_putJump_7 ?_
  refine V.aload_n d_La_putJump_10 rfl 0 rfl ?_
  refine V.getI ok_La fl_La_15 (by decide) (by decide) ly_10 rfl d_La_putJump_11 ?_
  refine V.iconst (v := 1) d_La_putJump_14 (by decide) ?_
  refine V.isub d_La_putJump_15 ?_
  cases h
  exact V.iret rfl d_La_putJump_16 ⟨rfl, rfl⟩
abbrev m_La_aimHere : MI := (⟨"ShadeTown$Law", "aimHere", "(I)V"⟩, prog_4_method_10_code, 5, (Option.none : Option Jvm.ClassFile.FieldType))
theorem d_La_aimHere_0 : decode prog_4_method_10_code 0 = .ok (.iload_n 1, 1) := by decide +kernel
theorem d_La_aimHere_1 : decode prog_4_method_10_code 1 = .ok (.istore_n 2, 1) := by decide +kernel
theorem d_La_aimHere_2 : decode prog_4_method_10_code 2 = .ok (.iconst 0, 1) := by decide +kernel
theorem d_La_aimHere_3 : decode prog_4_method_10_code 3 = .ok (.istore_n 3, 1) := by decide +kernel
theorem d_La_aimHere_4 : decode prog_4_method_10_code 4 = .ok (.iload_n 3, 1) := by decide +kernel
theorem d_La_aimHere_5 : decode prog_4_method_10_code 5 = .ok (.sipush 513, 3) := by decide +kernel
theorem d_La_aimHere_11 : decode prog_4_method_10_code 11 = .ok (.iload_n 2, 1) := by decide +kernel
theorem d_La_aimHere_15 : decode prog_4_method_10_code 15 = .ok (.iload_n 2, 1) := by decide +kernel
theorem d_La_aimHere_16 : decode prog_4_method_10_code 16 = .ok (.sipush 513, 3) := by decide +kernel
theorem d_La_aimHere_22 : decode prog_4_method_10_code 22 = .ok (.aload_n 0, 1) := by decide +kernel
theorem d_La_aimHere_23 : decode prog_4_method_10_code 23 = .ok (.getfield 11, 3) := by decide +kernel
theorem d_La_aimHere_26 : decode prog_4_method_10_code 26 = .ok (.iload_n 2, 1) := by decide +kernel
theorem d_La_aimHere_27 : decode prog_4_method_10_code 27 = .ok (.iaload, 1) := by decide +kernel
theorem d_La_aimHere_28 : decode prog_4_method_10_code 28 = .ok (.istore 4, 2) := by decide +kernel
theorem d_La_aimHere_30 : decode prog_4_method_10_code 30 = .ok (.aload_n 0, 1) := by decide +kernel
theorem d_La_aimHere_31 : decode prog_4_method_10_code 31 = .ok (.getfield 11, 3) := by decide +kernel
theorem d_La_aimHere_34 : decode prog_4_method_10_code 34 = .ok (.iload_n 2, 1) := by decide +kernel
theorem d_La_aimHere_35 : decode prog_4_method_10_code 35 = .ok (.aload_n 0, 1) := by decide +kernel
theorem d_La_aimHere_36 : decode prog_4_method_10_code 36 = .ok (.getfield 15, 3) := by decide +kernel
theorem d_La_aimHere_39 : decode prog_4_method_10_code 39 = .ok (.iastore, 1) := by decide +kernel
theorem d_La_aimHere_40 : decode prog_4_method_10_code 40 = .ok (.iload 4, 2) := by decide +kernel
theorem d_La_aimHere_42 : decode prog_4_method_10_code 42 = .ok (.istore_n 2, 1) := by decide +kernel
theorem d_La_aimHere_43 : decode prog_4_method_10_code 43 = .ok (.iinc 3 1, 3) := by decide +kernel
theorem d_La_aimHere_46 : decode prog_4_method_10_code 46 = .ok (.goto (-42), 3) := by decide +kernel
theorem d_La_aimHere_19 : decode prog_4_method_10_code 19 = .ok (.if_icmp .ge 30, 3) := by decide +kernel
theorem d_La_aimHere_12 : decode prog_4_method_10_code 12 = .ok (.ifCond .lt 37, 3) := by decide +kernel
theorem d_La_aimHere_8 : decode prog_4_method_10_code 8 = .ok (.if_icmp .ge 41, 3) := by decide +kernel
theorem d_La_aimHere_49 : decode prog_4_method_10_code 49 = .ok (.return_, 1) := by decide +kernel
def B_La_aimHere_b_l4 (N : Nat) (rec : Int32 → Int32 → Mem → Option (Mem)) (x2 : Int32) (x3 : Int32) (σ : Mem) : Option (Mem) :=
  if 513 ≤ x3 then
    (some σ)
  else
    (if x2 < 0 then
      (some σ)
    else
      (if 513 ≤ x2 then
        (some σ)
      else
        (grd (inb x2 513) <|
        letv (mI σ 11 (x2.toNatClampNeg)) fun v28 =>
        grd (inb x2 513) <|
        letv (sI σ 11 (x2.toNatClampNeg) (mI σ 10 1)) fun σ39 =>
        letv (x3 + 1) fun v43 =>
        rec v28 v43 σ39)))
def L_La_aimHere_b_l4 (N : Nat) : Nat → Int32 → Int32 → Mem → Option (Mem)
  | 0, _, _, _ => none
  | k + 1, x2, x3, σ => B_La_aimHere_b_l4 N (L_La_aimHere_b_l4 N k) x2 x3 σ
set_option maxHeartbeats 4000000 in
set_option maxRecDepth 20000 in
theorem cL_La_aimHere_b_l4 (Z : ZX) {Y : YX} {Q : State → Prop} {N : Nat} {Good : Mem → Prop} (hE : ∀ (σe : Mem), Good σe → V (mkB Z) Y m_La_aimHere 0 Q 0 0 nC σe 49 [] []) : ∀ (k : Nat) (x2 : Int32) (x3 : Int32) (σ : Mem) (res : Mem), L_La_aimHere_b_l4 N k x2 x3 σ = some res → Good res → V (mkB Z) Y m_La_aimHere 0 Q 0 0 nC σ 4 [(0, rf Z 10), (2, .int x2), (3, .int x3)] [] := by
  intro k
  induction k with
  | zero => intro x2 x3 σ res h; cases h
  | succ k ih =>
    intro x2 x3 σ res h hg
    replace h : B_La_aimHere_b_l4 N (L_La_aimHere_b_l4 N k) x2 x3 σ = some res := h
    unfold B_La_aimHere_b_l4 at h
    refine V.iload_n d_La_aimHere_4 rfl 2 rfl ?_
    refine V.sipush (v := 513) d_La_aimHere_5 (by decide) ?_
    refine V.icmp_ge (tgt := 49) d_La_aimHere_8 (by decide) (fun hc8 => ?_) (fun hc8 => ?_)
    · replace h := ite_t hc8 h
      cases h
      exact V.pick [] rfl (hE _ hg)
    · replace h := ite_f hc8 h
      refine V.iload_n d_La_aimHere_11 rfl 1 rfl ?_
      refine V.if_lt (tgt := 49) d_La_aimHere_12 (by decide) (fun hc12 => ?_) (fun hc12 => ?_)
      · replace h := ite_t hc12 h
        cases h
        exact V.pick [] rfl (hE _ hg)
      · replace h := ite_f hc12 h
        refine V.iload_n d_La_aimHere_15 rfl 1 rfl ?_
        refine V.sipush (v := 513) d_La_aimHere_16 (by decide) ?_
        refine V.icmp_ge (tgt := 49) d_La_aimHere_19 (by decide) (fun hc19 => ?_) (fun hc19 => ?_)
        · replace h := ite_t hc19 h
          cases h
          exact V.pick [] rfl (hE _ hg)
        · replace h := ite_f hc19 h
          refine V.aload_n d_La_aimHere_22 rfl 0 rfl ?_
          refine V.getR (r := 11) ok_La fl_La_11 (by decide) (by decide) ly_10 rfl d_La_aimHere_23 ?_
          refine V.iload_n d_La_aimHere_26 rfl 1 rfl ?_
          obtain ⟨gq, h⟩ := grd_e h
          refine V.ra (by decide) ly_11 (inb_e gq) rfl d_La_aimHere_27 ?_
          obtain ⟨v28, e_v28, h⟩ := letv_e h
          refine V.topI e_v28 ?_
          refine V.istore (lv' := [(4, .int v28), (0, rf Z 10), (2, .int x2), (3, .int x3)]) d_La_aimHere_28 (by decide) rfl ?_
          refine V.aload_n d_La_aimHere_30 rfl 1 rfl ?_
          refine V.getR (r := 11) ok_La fl_La_11 (by decide) (by decide) ly_10 rfl d_La_aimHere_31 ?_
          refine V.iload_n d_La_aimHere_34 rfl 2 rfl ?_
          refine V.aload_n d_La_aimHere_35 rfl 1 rfl ?_
          refine V.getI ok_La fl_La_15 (by decide) (by decide) ly_10 rfl d_La_aimHere_36 ?_
          obtain ⟨gq, h⟩ := grd_e h
          obtain ⟨σ39, e_σ39, h⟩ := letv_e h
          refine V.wa (by decide) ly_11 (inb_e gq) rfl d_La_aimHere_39 e_σ39 ?_
          refine V.iload d_La_aimHere_40 0 rfl ?_
          refine V.istore_n (lv' := [(2, .int v28), (4, .int v28), (0, rf Z 10), (3, .int x3)]) d_La_aimHere_42 rfl (by decide) rfl ?_
          obtain ⟨v43, e_v43, h⟩ := letv_e h
          refine V.iinc (v := v43) (lv' := [(3, .int v43), (2, .int v28), (4, .int v28), (0, rf Z 10)]) d_La_aimHere_43 3 rfl (by rw [e_v43]; rfl) (by decide) rfl ?_
          refine V.goto (tgt := 4) d_La_aimHere_46 (by decide) ?_
          exact V.pick [3, 1, 0] rfl (ih _ _ _ _ h hg)
def f_La_aimHere_b (N : Nat) (σ : Mem) (a1 : Int32) : Option (Mem) :=
  bnd1 (L_La_aimHere_b_l4 N N a1 0 σ) fun σ4_ =>
  some σ4_
set_option maxHeartbeats 4000000 in
set_option maxRecDepth 20000 in
theorem c_La_aimHere_b (Z : ZX) {N : Nat} {σ : Mem} {a1 : Int32} {σ' : Mem} (h : f_La_aimHere_b N σ a1 = some σ') : CN Z 0 m_La_aimHere [rf Z 10, .int a1] σ σ' := by
  refine Ct.of (by decide +kernel) (Nat.le_of_ble_eq_true rfl) (fun Y => ?_)
  show V (mkB Z) Y m_La_aimHere 0 (QP (mkB Z) Y nC 0 0 (fun v t => v = none ∧ t = σ')) 0 0 nC σ 0 [(0, rf Z 10), (1, .int a1)] []
  unfold f_La_aimHere_b at h
  refine V.iload_n d_La_aimHere_0 rfl 1 rfl ?_
  refine V.istore_n (lv' := [(2, .int a1), (0, rf Z 10), (1, .int a1)]) d_La_aimHere_1 rfl (by decide) rfl ?_
  refine V.iconst (v := 0) d_La_aimHere_2 (by decide) ?_
  refine V.istore_n (lv' := [(3, .int 0), (2, .int a1), (0, rf Z 10), (1, .int a1)]) d_La_aimHere_3 rfl (by decide) rfl ?_
  obtain ⟨x4_, h1, h⟩ := bnd1_e h
  refine V.pick [2, 1, 0] rfl (cL_La_aimHere_b_l4 Z (Good := fun z => x4_ = z) (fun σ4_ he => ?_) N _ _ _ _ h1 rfl)
  · rw [he] at h
    cases h
    exact V.vret rfl d_La_aimHere_49 ⟨rfl, rfl⟩
def f_JS_isLatin1_aae02_s1 : Option (Int32) :=
  if (1 : Int32) = 0 then
    (some 0)
  else
    (if (0 : Int32) = 0 then
      (some 1)
    else
      (some 0))
set_option maxHeartbeats 4000000 in
set_option maxRecDepth 20000 in
theorem c_JS_isLatin1_aae02_s1 (Z : ZX) {σ : Mem} {r : Int32} (h : f_JS_isLatin1_aae02_s1 = some r) : CI Z 0 m_JS_isLatin1_aae02 [.ref (bK (mkB Z) 1)] σ r σ := by
  refine Ct.of (by decide +kernel) (Nat.le_of_ble_eq_true rfl) (fun Y => ?_)
  show V (mkB Z) Y m_JS_isLatin1_aae02 0 (QP (mkB Z) Y nC 0 0 (fun v t => v = some (.int r) ∧ t = σ)) 0 0 nC σ 0 [(0, .ref (bK (mkB Z) 1))] []
  unfold f_JS_isLatin1_aae02_s1 at h
  refine V.gcs sf_JS_38 d_JS_isLatin1_aae02_0 ?_
  refine V.if_eq (tgt := 17) d_JS_isLatin1_aae02_3 (by decide) (fun hc3 => ?_) (fun hc3 => ?_)
  · replace h := ite_t hc3 h
    refine V.iconst (v := 0) d_JS_isLatin1_aae02_17 (by decide) ?_
    cases h
    exact V.zret rfl rfl d_JS_isLatin1_aae02_18 ⟨rfl, rfl⟩
  · replace h := ite_f hc3 h
    refine V.aload_n d_JS_isLatin1_aae02_6 rfl 0 rfl ?_
    refine V.scod (by decide) sf_JS_15 d_JS_isLatin1_aae02_7 ?_
    refine V.if_ne (tgt := 17) d_JS_isLatin1_aae02_10 (by decide) (fun hc10 => ?_) (fun hc10 => ?_)
    · replace h := ite_f hc10 h
      refine V.iconst (v := 0) d_JS_isLatin1_aae02_17 (by decide) ?_
      cases h
      exact V.zret rfl rfl d_JS_isLatin1_aae02_18 ⟨rfl, rfl⟩
    · replace h := ite_t hc10 h
      refine V.iconst (v := 1) d_JS_isLatin1_aae02_13 (by decide) ?_
      refine V.goto (tgt := 18) d_JS_isLatin1_aae02_14 (by decide) ?_
      cases h
      exact V.zret rfl rfl d_JS_isLatin1_aae02_18 ⟨rfl, rfl⟩
def f_JS_coder_7d493_s1 : Option (Int32) :=
  if (1 : Int32) = 0 then
    (some 1)
  else
    (some 0)
set_option maxHeartbeats 4000000 in
set_option maxRecDepth 20000 in
theorem c_JS_coder_7d493_s1 (Z : ZX) {σ : Mem} {r : Int32} (h : f_JS_coder_7d493_s1 = some r) : CI Z 0 m_JS_coder_7d493 [.ref (bK (mkB Z) 1)] σ r σ := by
  refine Ct.of (by decide +kernel) (Nat.le_of_ble_eq_true rfl) (fun Y => ?_)
  show V (mkB Z) Y m_JS_coder_7d493 0 (QP (mkB Z) Y nC 0 0 (fun v t => v = some (.int r) ∧ t = σ)) 0 0 nC σ 0 [(0, .ref (bK (mkB Z) 1))] []
  unfold f_JS_coder_7d493_s1 at h
  refine V.gcs sf_JS_38 d_JS_coder_7d493_0 ?_
  refine V.if_eq (tgt := 13) d_JS_coder_7d493_3 (by decide) (fun hc3 => ?_) (fun hc3 => ?_)
  · replace h := ite_t hc3 h
    refine V.iconst (v := 1) d_JS_coder_7d493_13 (by decide) ?_
    cases h
    exact V.zret rfl rfl d_JS_coder_7d493_14 ⟨rfl, rfl⟩
  · replace h := ite_f hc3 h
    refine V.aload_n d_JS_coder_7d493_6 rfl 0 rfl ?_
    refine V.scod (by decide) sf_JS_15 d_JS_coder_7d493_7 ?_
    refine V.goto (tgt := 14) d_JS_coder_7d493_10 (by decide) ?_
    cases h
    exact V.zret rfl rfl d_JS_coder_7d493_14 ⟨rfl, rfl⟩
def f_JS_length_8abf5_s1 : Option (Int32) :=
  bnd1 (f_JS_coder_7d493_s1) fun r6 =>
  some (3 >>> (r6 &&& 31))
set_option maxHeartbeats 4000000 in
set_option maxRecDepth 20000 in
theorem c_JS_length_8abf5_s1 (Z : ZX) {σ : Mem} {r : Int32} (h : f_JS_length_8abf5_s1 = some r) : CI Z 1 m_JS_length_8abf5 [.ref (bK (mkB Z) 1)] σ r σ := by
  refine Ct.of (by decide +kernel) (Nat.le_of_ble_eq_true rfl) (fun Y => ?_)
  show V (mkB Z) Y m_JS_length_8abf5 1 (QP (mkB Z) Y nC 0 0 (fun v t => v = some (.int r) ∧ t = σ)) 0 0 nC σ 0 [(0, .ref (bK (mkB Z) 1))] []
  unfold f_JS_length_8abf5_s1 at h
  refine V.aload_n d_JS_length_8abf5_0 rfl 0 rfl ?_
  refine V.sval (by decide) sf_JS_9 d_JS_length_8abf5_1 ?_
  refine V.slen (x := 3) (by decide) (by decide) d_JS_length_8abf5_4 ?_
  refine V.aload_n d_JS_length_8abf5_5 rfl 0 rfl ?_
  obtain ⟨r6, h1, h⟩ := bnd1_e h
  refine V.uI (as := []) (st := [.int 3]) (by decide) (c_JS_coder_7d493_s1 Z h1) k_JS_coder_7d493 rfl lk_JS_335 (by decide) rfl rfl (Nat.le_of_ble_eq_true rfl) d_JS_length_8abf5_6 ?_
  refine V.ishr d_JS_length_8abf5_9 ?_
  cases h
  exact V.iret rfl d_JS_length_8abf5_10 ⟨rfl, rfl⟩
def B_JL_indexOfChar_4cfef_s1_l7 (N : Nat) (a3 : Int32) (a4 : Int32) (rec : Int32 → Option (Int32)) (x5 : Int32) : Option (Int32) :=
  if a3 ≤ x5 then
    (some (-1))
  else
    (grd (inb x5 3) <|
    if (stb 1 (x5.toNatClampNeg)) = a4 then
      (some x5)
    else
      (letv (x5 + 1) fun v25 =>
      rec v25))
def L_JL_indexOfChar_4cfef_s1_l7 (N : Nat) (a3 : Int32) (a4 : Int32) : Nat → Int32 → Option (Int32)
  | 0, _ => none
  | k + 1, x5 => B_JL_indexOfChar_4cfef_s1_l7 N a3 a4 (L_JL_indexOfChar_4cfef_s1_l7 N a3 a4 k) x5
set_option maxHeartbeats 4000000 in
set_option maxRecDepth 20000 in
theorem cL_JL_indexOfChar_4cfef_s1_l7 (Z : ZX) {Y : YX} {post : Option Value → Mem → Prop} {N : Nat} {a3 : Int32} {a4 : Int32} {σ : Mem} {Good : Int32 → Prop} (hR : ∀ (v : Int32), Good v → post (some (.int v)) σ) : ∀ (k : Nat) (x5 : Int32) (res : Int32), L_JL_indexOfChar_4cfef_s1_l7 N a3 a4 k x5 = some res → Good res → V (mkB Z) Y m_JL_indexOfChar_4cfef 0 (QP (mkB Z) Y nC 0 0 post) 0 0 nC σ 7 [(0, .ref (bV (mkB Z) 1)), (3, .int a3), (4, .int a4), (5, .int x5)] [] := by
  intro k
  induction k with
  | zero => intro x5 res h; cases h
  | succ k ih =>
    intro x5 res h hg
    replace h : B_JL_indexOfChar_4cfef_s1_l7 N a3 a4 (L_JL_indexOfChar_4cfef_s1_l7 N a3 a4 k) x5 = some res := h
    unfold B_JL_indexOfChar_4cfef_s1_l7 at h
    refine V.iload d_JL_indexOfChar_4cfef_7 3 rfl ?_
    refine V.iload_n d_JL_indexOfChar_4cfef_9 rfl 1 rfl ?_
    refine V.icmp_ge (tgt := 31) d_JL_indexOfChar_4cfef_10 (by decide) (fun hc10 => ?_) (fun hc10 => ?_)
    · replace h := ite_t hc10 h
      refine V.iconst (v := (-1)) d_JL_indexOfChar_4cfef_31 (by decide) ?_
      cases h
      exact V.iret rfl d_JL_indexOfChar_4cfef_32 (hR _ hg)
    · replace h := ite_f hc10 h
      refine V.aload_n d_JL_indexOfChar_4cfef_13 rfl 0 rfl ?_
      refine V.iload d_JL_indexOfChar_4cfef_14 3 rfl ?_
      obtain ⟨gq, h⟩ := grd_e h
      refine V.sld (by decide) (inb_e gq) rfl d_JL_indexOfChar_4cfef_16 ?_
      refine V.iload d_JL_indexOfChar_4cfef_17 2 rfl ?_
      refine V.icmp_ne (tgt := 25) d_JL_indexOfChar_4cfef_19 (by decide) (fun hc19 => ?_) (fun hc19 => ?_)
      · replace h := ite_f hc19 h
        obtain ⟨v25, e_v25, h⟩ := letv_e h
        refine V.iinc (v := v25) (lv' := [(5, .int v25), (0, .ref (bV (mkB Z) 1)), (3, .int a3), (4, .int a4)]) d_JL_indexOfChar_4cfef_25 3 rfl (by rw [e_v25]; rfl) (by decide) rfl ?_
        refine V.goto (tgt := 7) d_JL_indexOfChar_4cfef_28 (by decide) ?_
        exact V.pick [1, 2, 3, 0] rfl (ih _ _ h hg)
      · replace h := ite_t hc19 h
        refine V.iload d_JL_indexOfChar_4cfef_22 3 rfl ?_
        cases h
        exact V.iret rfl d_JL_indexOfChar_4cfef_24 (hR _ hg)
def f_JL_indexOfChar_4cfef_s1 (N : Nat) (a1 : Int32) (a2 : Int32) (a3 : Int32) : Option (Int32) :=
  letv (a1.toInt8.toInt32) fun v2 =>
  L_JL_indexOfChar_4cfef_s1_l7 N a3 v2 N a2
set_option maxHeartbeats 4000000 in
set_option maxRecDepth 20000 in
theorem c_JL_indexOfChar_4cfef_s1 (Z : ZX) {N : Nat} {σ : Mem} {a1 : Int32} {a2 : Int32} {a3 : Int32} {r : Int32} (h : f_JL_indexOfChar_4cfef_s1 N a1 a2 a3 = some r) : CI Z 0 m_JL_indexOfChar_4cfef [.ref (bV (mkB Z) 1), .int a1, .int a2, .int a3] σ r σ := by
  refine Ct.of (by decide +kernel) (Nat.le_of_ble_eq_true rfl) (fun Y => ?_)
  show V (mkB Z) Y m_JL_indexOfChar_4cfef 0 (QP (mkB Z) Y nC 0 0 (fun v t => v = some (.int r) ∧ t = σ)) 0 0 nC σ 0 [(0, .ref (bV (mkB Z) 1)), (1, .int a1), (2, .int a2), (3, .int a3)] []
  unfold f_JL_indexOfChar_4cfef_s1 at h
  refine V.iload_n d_JL_indexOfChar_4cfef_0 rfl 1 rfl ?_
  refine V.i2b d_JL_indexOfChar_4cfef_1 ?_
  obtain ⟨v2, e_v2, h⟩ := letv_e h
  refine V.topI e_v2 ?_
  refine V.istore (lv' := [(4, .int v2), (0, .ref (bV (mkB Z) 1)), (1, .int a1), (2, .int a2), (3, .int a3)]) d_JL_indexOfChar_4cfef_2 (by decide) rfl ?_
  refine V.iload_n d_JL_indexOfChar_4cfef_4 rfl 3 rfl ?_
  refine V.istore (lv' := [(5, .int a2), (4, .int v2), (0, .ref (bV (mkB Z) 1)), (1, .int a1), (2, .int a2), (3, .int a3)]) d_JL_indexOfChar_4cfef_5 (by decide) rfl ?_
  refine V.pick [2, 5, 1, 0] rfl (cL_JL_indexOfChar_4cfef_s1_l7 Z (Good := fun z => z = _) (fun r7v he => ?_) N _ _ h rfl)
  · cases he
    exact ⟨rfl, rfl⟩
def f_JL_indexOf_4cfef_s1 (N : Nat) (a1 : Int32) (a2 : Int32) (a3 : Int32) : Option (Int32) :=
  bnd1 (f_JL_canEncode_9a6ad a1) fun r1 =>
  if r1 = 0 then
    (some (-1))
  else
    (bnd1 (f_JM_max_7cf53 a2 0) fun r11 =>
    bnd1 (f_JM_min_7cf53 a3 3) fun r18 =>
    if r11 < r18 then
      (bnd1 (f_JL_indexOfChar_4cfef_s1 N a1 r11 r18) fun r33 =>
      some r33)
    else
      (some (-1)))
set_option maxHeartbeats 4000000 in
set_option maxRecDepth 20000 in
theorem c_JL_indexOf_4cfef_s1 (Z : ZX) {N : Nat} {σ : Mem} {a1 : Int32} {a2 : Int32} {a3 : Int32} {r : Int32} (h : f_JL_indexOf_4cfef_s1 N a1 a2 a3 = some r) : CI Z 1 m_JL_indexOf_4cfef [.ref (bV (mkB Z) 1), .int a1, .int a2, .int a3] σ r σ := by
  refine Ct.of (by decide +kernel) (Nat.le_of_ble_eq_true rfl) (fun Y => ?_)
  show V (mkB Z) Y m_JL_indexOf_4cfef 1 (QP (mkB Z) Y nC 0 0 (fun v t => v = some (.int r) ∧ t = σ)) 0 0 nC σ 0 [(0, .ref (bV (mkB Z) 1)), (1, .int a1), (2, .int a2), (3, .int a3)] []
  unfold f_JL_indexOf_4cfef_s1 at h
  refine V.iload_n d_JL_indexOf_4cfef_0 rfl 1 rfl ?_
  obtain ⟨r1, h1, h⟩ := bnd1_e h
  refine V.sI (as := [.int a1]) (st := []) (c_JL_canEncode_9a6ad Z h1) k_JL_canEncode_9a6ad lk_JL_88 (by decide) rfl rfl (Nat.le_of_ble_eq_true rfl) d_JL_indexOf_4cfef_1 ?_
  refine V.if_ne (tgt := 9) d_JL_indexOf_4cfef_4 (by decide) (fun hc4 => ?_) (fun hc4 => ?_)
  · replace h := ite_f hc4 h
    refine V.iload_n d_JL_indexOf_4cfef_9 rfl 2 rfl ?_
    refine V.iconst (v := 0) d_JL_indexOf_4cfef_10 (by decide) ?_
    obtain ⟨r11, h1, h⟩ := bnd1_e h
    refine V.sI (as := [.int a2, .int 0]) (st := []) (c_JM_max_7cf53 Z h1) k_JM_max_7cf53 lk_JL_92 (by decide) rfl rfl (Nat.le_of_ble_eq_true rfl) d_JL_indexOf_4cfef_11 ?_
    refine V.istore_n (lv' := [(2, .int r11), (0, .ref (bV (mkB Z) 1)), (1, .int a1), (3, .int a3)]) d_JL_indexOf_4cfef_14 rfl (by decide) rfl ?_
    refine V.iload_n d_JL_indexOf_4cfef_15 rfl 3 rfl ?_
    refine V.aload_n d_JL_indexOf_4cfef_16 rfl 1 rfl ?_
    refine V.slen (x := 3) (by decide) (by decide) d_JL_indexOf_4cfef_17 ?_
    obtain ⟨r18, h1, h⟩ := bnd1_e h
    refine V.sI (as := [.int a3, .int 3]) (st := []) (c_JM_min_7cf53 Z h1) k_JM_min_7cf53 lk_JL_38 (by decide) rfl rfl (Nat.le_of_ble_eq_true rfl) d_JL_indexOf_4cfef_18 ?_
    refine V.istore_n (lv' := [(3, .int r18), (2, .int r11), (0, .ref (bV (mkB Z) 1)), (1, .int a1)]) d_JL_indexOf_4cfef_21 rfl (by decide) rfl ?_
    refine V.iload_n d_JL_indexOf_4cfef_22 rfl 1 rfl ?_
    refine V.iload_n d_JL_indexOf_4cfef_23 rfl 0 rfl ?_
    refine V.icmp_lt (tgt := 29) d_JL_indexOf_4cfef_24 (by decide) (fun hc24 => ?_) (fun hc24 => ?_)
    · replace h := ite_t hc24 h
      refine V.aload_n d_JL_indexOf_4cfef_29 rfl 2 rfl ?_
      refine V.iload_n d_JL_indexOf_4cfef_30 rfl 3 rfl ?_
      refine V.iload_n d_JL_indexOf_4cfef_31 rfl 1 rfl ?_
      refine V.iload_n d_JL_indexOf_4cfef_32 rfl 0 rfl ?_
      obtain ⟨r33, h1, h⟩ := bnd1_e h
      refine V.sI (as := [.ref (bV (mkB Z) 1), .int a1, .int r11, .int r18]) (st := []) (c_JL_indexOfChar_4cfef_s1 Z h1) k_JL_indexOfChar_4cfef lk_JL_95 (by decide) rfl rfl (Nat.le_of_ble_eq_true rfl) d_JL_indexOf_4cfef_33 ?_
      cases h
      exact V.iret rfl d_JL_indexOf_4cfef_36 ⟨rfl, rfl⟩
    · replace h := ite_f hc24 h
      refine V.iconst (v := (-1)) d_JL_indexOf_4cfef_27 (by decide) ?_
      cases h
      exact V.iret rfl d_JL_indexOf_4cfef_28 ⟨rfl, rfl⟩
  · replace h := ite_t hc4 h
    refine V.iconst (v := (-1)) d_JL_indexOf_4cfef_7 (by decide) ?_
    cases h
    exact V.iret rfl d_JL_indexOf_4cfef_8 ⟨rfl, rfl⟩
def f_JS_indexOf_7cf53_s1 (N : Nat) (a1 : Int32) (a2 : Int32) : Option (Int32) :=
  bnd1 (f_JS_isLatin1_aae02_s1) fun r1 =>
  grd (decide (¬ r1 = 0)) <|
  bnd1 (f_JS_length_8abf5_s1) fun r14 =>
  bnd1 (f_JL_indexOf_4cfef_s1 N a1 a2 r14) fun r17 =>
  some r17
set_option maxHeartbeats 4000000 in
set_option maxRecDepth 20000 in
theorem c_JS_indexOf_7cf53_s1 (Z : ZX) {N : Nat} {σ : Mem} {a1 : Int32} {a2 : Int32} {r : Int32} (h : f_JS_indexOf_7cf53_s1 N a1 a2 = some r) : CI Z 2 m_JS_indexOf_7cf53 [.ref (bK (mkB Z) 1), .int a1, .int a2] σ r σ := by
  refine Ct.of (by decide +kernel) (Nat.le_of_ble_eq_true rfl) (fun Y => ?_)
  show V (mkB Z) Y m_JS_indexOf_7cf53 2 (QP (mkB Z) Y nC 0 0 (fun v t => v = some (.int r) ∧ t = σ)) 0 0 nC σ 0 [(0, .ref (bK (mkB Z) 1)), (1, .int a1), (2, .int a2)] []
  unfold f_JS_indexOf_7cf53_s1 at h
  refine V.aload_n d_JS_indexOf_7cf53_0 rfl 0 rfl ?_
  obtain ⟨r1, h1, h⟩ := bnd1_e h
  refine V.uI (as := []) (st := []) (by decide) (c_JS_isLatin1_aae02_s1 Z h1) k_JS_isLatin1_aae02 rfl lk_JS_492 (by decide) rfl rfl (Nat.le_of_ble_eq_true rfl) d_JS_indexOf_7cf53_1 ?_
  obtain ⟨gq, h⟩ := grd_e h
  refine V.if_eq (tgt := 23) d_JS_indexOf_7cf53_4 (by decide) (fun hc => absurd hc (of_decide_eq_true gq)) (fun _ => ?_)
  refine V.aload_n d_JS_indexOf_7cf53_7 rfl 0 rfl ?_
  refine V.sval (by decide) sf_JS_9 d_JS_indexOf_7cf53_8 ?_
  refine V.iload_n d_JS_indexOf_7cf53_11 rfl 1 rfl ?_
  refine V.iload_n d_JS_indexOf_7cf53_12 rfl 2 rfl ?_
  refine V.aload_n d_JS_indexOf_7cf53_13 rfl 0 rfl ?_
  obtain ⟨r14, h1, h⟩ := bnd1_e h
  refine V.uI (as := []) (st := [.int a2, .int a1, .ref (bV (mkB Z) 1)]) (by decide) (c_JS_length_8abf5_s1 Z h1) k_JS_length_8abf5 rfl lk_JS_505 (by decide) rfl rfl (Nat.le_of_ble_eq_true rfl) d_JS_indexOf_7cf53_14 ?_
  obtain ⟨r17, h1, h⟩ := bnd1_e h
  refine V.sI (as := [.ref (bV (mkB Z) 1), .int a1, .int a2, .int r14]) (st := []) (c_JL_indexOf_4cfef_s1 Z h1) k_JL_indexOf_4cfef lk_JS_637 (by decide) rfl rfl (Nat.le_of_ble_eq_true rfl) d_JS_indexOf_7cf53_17 ?_
  refine V.goto (tgt := 36) d_JS_indexOf_7cf53_20 (by decide) ?_
  cases h
  exact V.iret rfl d_JS_indexOf_7cf53_36 ⟨rfl, rfl⟩
def f_JS_indexOf_0f7a4_s1 (N : Nat) (a1 : Int32) : Option (Int32) :=
  bnd1 (f_JS_indexOf_7cf53_s1 N a1 0) fun r3 =>
  some r3
set_option maxHeartbeats 4000000 in
set_option maxRecDepth 20000 in
theorem c_JS_indexOf_0f7a4_s1 (Z : ZX) {N : Nat} {σ : Mem} {a1 : Int32} {r : Int32} (h : f_JS_indexOf_0f7a4_s1 N a1 = some r) : CI Z 3 m_JS_indexOf_0f7a4 [.ref (bK (mkB Z) 1), .int a1] σ r σ := by
  refine Ct.of (by decide +kernel) (Nat.le_of_ble_eq_true rfl) (fun Y => ?_)
  show V (mkB Z) Y m_JS_indexOf_0f7a4 3 (QP (mkB Z) Y nC 0 0 (fun v t => v = some (.int r) ∧ t = σ)) 0 0 nC σ 0 [(0, .ref (bK (mkB Z) 1)), (1, .int a1)] []
  unfold f_JS_indexOf_0f7a4_s1 at h
  refine V.aload_n d_JS_indexOf_0f7a4_0 rfl 0 rfl ?_
  refine V.iload_n d_JS_indexOf_0f7a4_1 rfl 1 rfl ?_
  refine V.iconst (v := 0) d_JS_indexOf_0f7a4_2 (by decide) ?_
  obtain ⟨r3, h1, h⟩ := bnd1_e h
  refine V.uI (as := [.int a1, .int 0]) (st := []) (by decide) (c_JS_indexOf_7cf53_s1 Z h1) k_JS_indexOf_7cf53 rfl lk_JS_633 (by decide) rfl rfl (Nat.le_of_ble_eq_true rfl) d_JS_indexOf_0f7a4_3 ?_
  cases h
  exact V.iret rfl d_JS_indexOf_0f7a4_6 ⟨rfl, rfl⟩
def f_Rd_isOneOf_s1 (N : Nat) (σ : Mem) : Option (Int32) :=
  bnd1 (f_Rd_sign σ) fun r1 =>
  if r1 < 0 then
    (some 0)
  else
    (bnd1 (f_JS_indexOf_0f7a4_s1 N ((r1.toUInt32 % 65536).toInt32)) fun r12 =>
    if r12 < 0 then
      (some 0)
    else
      (some 1))
set_option maxHeartbeats 4000000 in
set_option maxRecDepth 20000 in
theorem c_Rd_isOneOf_s1 (Z : ZX) {N : Nat} {σ : Mem} {r : Int32} (h : f_Rd_isOneOf_s1 N σ = some r) : CI Z 4 m_Rd_isOneOf [rf Z 17, .ref (bK (mkB Z) 1)] σ r σ := by
  refine Ct.of (by decide +kernel) (Nat.le_of_ble_eq_true rfl) (fun Y => ?_)
  show V (mkB Z) Y m_Rd_isOneOf 4 (QP (mkB Z) Y nC 0 0 (fun v t => v = some (.int r) ∧ t = σ)) 0 0 nC σ 0 [(0, rf Z 17), (1, .ref (bK (mkB Z) 1))] []
  unfold f_Rd_isOneOf_s1 at h
  refine V.aload_n d_Rd_isOneOf_0 rfl 0 rfl ?_
  obtain ⟨r1, h1, h⟩ := bnd1_e h
  refine V.vI (as := []) (st := []) (c_Rd_sign Z h1) k_Rd_sign lk_Rd_58 (by decide) rfl (by decide) ly_17 ok_Rd.1 rfl (Nat.le_of_ble_eq_true rfl) d_Rd_isOneOf_1 ?_
  refine V.istore_n (lv' := [(2, .int r1), (0, rf Z 17), (1, .ref (bK (mkB Z) 1))]) d_Rd_isOneOf_4 rfl (by decide) rfl ?_
  refine V.iload_n d_Rd_isOneOf_5 rfl 0 rfl ?_
  refine V.if_lt (tgt := 22) d_Rd_isOneOf_6 (by decide) (fun hc6 => ?_) (fun hc6 => ?_)
  · replace h := ite_t hc6 h
    refine V.iconst (v := 0) d_Rd_isOneOf_22 (by decide) ?_
    cases h
    exact V.zret rfl rfl d_Rd_isOneOf_23 ⟨rfl, rfl⟩
  · replace h := ite_f hc6 h
    refine V.aload_n d_Rd_isOneOf_9 rfl 2 rfl ?_
    refine V.iload_n d_Rd_isOneOf_10 rfl 0 rfl ?_
    refine V.i2c d_Rd_isOneOf_11 ?_
    obtain ⟨r12, h1, h⟩ := bnd1_e h
    refine V.uI (as := [.int ((r1.toUInt32 % 65536).toInt32)]) (st := []) (by decide) (c_JS_indexOf_0f7a4_s1 Z h1) k_JS_indexOf_0f7a4 rfl lk_Rd_61 (by decide) rfl rfl (Nat.le_of_ble_eq_true rfl) d_Rd_isOneOf_12 ?_
    refine V.if_lt (tgt := 22) d_Rd_isOneOf_15 (by decide) (fun hc15 => ?_) (fun hc15 => ?_)
    · replace h := ite_t hc15 h
      refine V.iconst (v := 0) d_Rd_isOneOf_22 (by decide) ?_
      cases h
      exact V.zret rfl rfl d_Rd_isOneOf_23 ⟨rfl, rfl⟩
    · replace h := ite_f hc15 h
      refine V.iconst (v := 1) d_Rd_isOneOf_18 (by decide) ?_
      refine V.goto (tgt := 23) d_Rd_isOneOf_19 (by decide) ?_
      cases h
      exact V.zret rfl rfl d_Rd_isOneOf_23 ⟨rfl, rfl⟩
abbrev m_Rd_stepDeeper : MI := (⟨"ShadeTown$LawReader", "stepDeeper", "(I)Z"⟩, prog_5_method_7_code, 2, (Option.some Jvm.ClassFile.FieldType.boolean))
theorem d_Rd_stepDeeper_0 : decode prog_5_method_7_code 0 = .ok (.iload_n 1, 1) := by decide +kernel
theorem d_Rd_stepDeeper_1 : decode prog_5_method_7_code 1 = .ok (.bipush 6, 2) := by decide +kernel
theorem d_Rd_stepDeeper_12 : decode prog_5_method_7_code 12 = .ok (.aload_n 0, 1) := by decide +kernel
theorem d_Rd_stepDeeper_13 : decode prog_5_method_7_code 13 = .ok (.dup, 1) := by decide +kernel
theorem d_Rd_stepDeeper_14 : decode prog_5_method_7_code 14 = .ok (.getfield 19, 3) := by decide +kernel
theorem d_Rd_stepDeeper_17 : decode prog_5_method_7_code 17 = .ok (.iconst 1, 1) := by decide +kernel
theorem d_Rd_stepDeeper_18 : decode prog_5_method_7_code 18 = .ok (.iadd, 1) := by decide +kernel
theorem d_Rd_stepDeeper_19 : decode prog_5_method_7_code 19 = .ok (.putfield 19, 3) := by decide +kernel
theorem d_Rd_stepDeeper_22 : decode prog_5_method_7_code 22 = .ok (.iconst 1, 1) := by decide +kernel
theorem d_Rd_stepDeeper_23 : decode prog_5_method_7_code 23 = .ok (.ireturn, 1) := by decide +kernel
theorem d_Rd_stepDeeper_6 : decode prog_5_method_7_code 6 = .ok (.aload_n 0, 1) := by decide +kernel
theorem d_Rd_stepDeeper_7 : decode prog_5_method_7_code 7 = .ok (.iconst 5, 1) := by decide +kernel
theorem d_Rd_stepDeeper_8 : decode prog_5_method_7_code 8 = .ok (.invokevirtual 66, 3) := by decide +kernel
theorem d_Rd_stepDeeper_11 : decode prog_5_method_7_code 11 = .ok (.ireturn, 1) := by decide +kernel
theorem d_Rd_stepDeeper_3 : decode prog_5_method_7_code 3 = .ok (.if_icmp .lt 9, 3) := by decide +kernel
def f_Rd_stepDeeper (σ : Mem) (a1 : Int32) : Option (Int32 × Mem) :=
  if a1 < 6 then
    (letv (sI σ 17 4 ((mI σ 17 4) + 1)) fun σ19 =>
    some (1, σ19))
  else
    (bnd2 (f_Rd_fail σ 5) fun r8 σ8 =>
    grd (decide (r8 &&& 1 = r8)) (some (r8, σ8)))
set_option maxHeartbeats 4000000 in
set_option maxRecDepth 20000 in
theorem c_Rd_stepDeeper (Z : ZX) {σ : Mem} {a1 : Int32} {r : Int32} {σ' : Mem} (h : f_Rd_stepDeeper σ a1 = some (r, σ')) : CI Z 1 m_Rd_stepDeeper [rf Z 17, .int a1] σ r σ' := by
  refine Ct.of (by decide +kernel) (Nat.le_of_ble_eq_true rfl) (fun Y => ?_)
  show V (mkB Z) Y m_Rd_stepDeeper 1 (QP (mkB Z) Y nC 0 0 (fun v t => v = some (.int r) ∧ t = σ')) 0 0 nC σ 0 [(0, rf Z 17), (1, .int a1)] []
  unfold f_Rd_stepDeeper at h
  refine V.iload_n d_Rd_stepDeeper_0 rfl 1 rfl ?_
  refine V.bipush (v := 6) d_Rd_stepDeeper_1 (by decide) ?_
  refine V.icmp_lt (tgt := 12) d_Rd_stepDeeper_3 (by decide) (fun hc3 => ?_) (fun hc3 => ?_)
  · replace h := ite_t hc3 h
    refine V.aload_n d_Rd_stepDeeper_12 rfl 0 rfl ?_
    refine V.dup d_Rd_stepDeeper_13 rfl ?_
    refine V.getI ok_Rd fl_Rd_19 (by decide) (by decide) ly_17 rfl d_Rd_stepDeeper_14 ?_
    refine V.iconst (v := 1) d_Rd_stepDeeper_17 (by decide) ?_
    refine V.iadd d_Rd_stepDeeper_18 ?_
    obtain ⟨σ19, e_σ19, h⟩ := letv_e h
    refine V.putI ok_Rd fl_Rd_19 (by decide) (by decide) ly_17 rfl rfl rfl rfl d_Rd_stepDeeper_19 (V.mem e_σ19 ?_)
    refine V.iconst (v := 1) d_Rd_stepDeeper_22 (by decide) ?_
    cases h
    exact V.zret rfl rfl d_Rd_stepDeeper_23 ⟨rfl, rfl⟩
  · replace h := ite_f hc3 h
    refine V.aload_n d_Rd_stepDeeper_6 rfl 0 rfl ?_
    refine V.iconst (v := 5) d_Rd_stepDeeper_7 (by decide) ?_
    obtain ⟨r8, σ8, h1, h⟩ := bnd2_e h
    refine V.vI (as := [.int 5]) (st := []) (c_Rd_fail Z h1) k_Rd_fail lk_Rd_66 (by decide) rfl (by decide) ly_17 ok_Rd.1 rfl (Nat.le_of_ble_eq_true rfl) d_Rd_stepDeeper_8 ?_
    obtain ⟨hz, h⟩ := grd_e h
    have hz := congrArg Value.int (of_decide_eq_true hz)
    cases h
    exact V.zret rfl hz d_Rd_stepDeeper_11 ⟨rfl, rfl⟩
def f_JS_isLatin1_aae02_s2 : Option (Int32) :=
  if (1 : Int32) = 0 then
    (some 0)
  else
    (if (0 : Int32) = 0 then
      (some 1)
    else
      (some 0))
set_option maxHeartbeats 4000000 in
set_option maxRecDepth 20000 in
theorem c_JS_isLatin1_aae02_s2 (Z : ZX) {σ : Mem} {r : Int32} (h : f_JS_isLatin1_aae02_s2 = some r) : CI Z 0 m_JS_isLatin1_aae02 [.ref (bK (mkB Z) 2)] σ r σ := by
  refine Ct.of (by decide +kernel) (Nat.le_of_ble_eq_true rfl) (fun Y => ?_)
  show V (mkB Z) Y m_JS_isLatin1_aae02 0 (QP (mkB Z) Y nC 0 0 (fun v t => v = some (.int r) ∧ t = σ)) 0 0 nC σ 0 [(0, .ref (bK (mkB Z) 2))] []
  unfold f_JS_isLatin1_aae02_s2 at h
  refine V.gcs sf_JS_38 d_JS_isLatin1_aae02_0 ?_
  refine V.if_eq (tgt := 17) d_JS_isLatin1_aae02_3 (by decide) (fun hc3 => ?_) (fun hc3 => ?_)
  · replace h := ite_t hc3 h
    refine V.iconst (v := 0) d_JS_isLatin1_aae02_17 (by decide) ?_
    cases h
    exact V.zret rfl rfl d_JS_isLatin1_aae02_18 ⟨rfl, rfl⟩
  · replace h := ite_f hc3 h
    refine V.aload_n d_JS_isLatin1_aae02_6 rfl 0 rfl ?_
    refine V.scod (by decide) sf_JS_15 d_JS_isLatin1_aae02_7 ?_
    refine V.if_ne (tgt := 17) d_JS_isLatin1_aae02_10 (by decide) (fun hc10 => ?_) (fun hc10 => ?_)
    · replace h := ite_f hc10 h
      refine V.iconst (v := 0) d_JS_isLatin1_aae02_17 (by decide) ?_
      cases h
      exact V.zret rfl rfl d_JS_isLatin1_aae02_18 ⟨rfl, rfl⟩
    · replace h := ite_t hc10 h
      refine V.iconst (v := 1) d_JS_isLatin1_aae02_13 (by decide) ?_
      refine V.goto (tgt := 18) d_JS_isLatin1_aae02_14 (by decide) ?_
      cases h
      exact V.zret rfl rfl d_JS_isLatin1_aae02_18 ⟨rfl, rfl⟩
def f_JS_coder_7d493_s2 : Option (Int32) :=
  if (1 : Int32) = 0 then
    (some 1)
  else
    (some 0)
set_option maxHeartbeats 4000000 in
set_option maxRecDepth 20000 in
theorem c_JS_coder_7d493_s2 (Z : ZX) {σ : Mem} {r : Int32} (h : f_JS_coder_7d493_s2 = some r) : CI Z 0 m_JS_coder_7d493 [.ref (bK (mkB Z) 2)] σ r σ := by
  refine Ct.of (by decide +kernel) (Nat.le_of_ble_eq_true rfl) (fun Y => ?_)
  show V (mkB Z) Y m_JS_coder_7d493 0 (QP (mkB Z) Y nC 0 0 (fun v t => v = some (.int r) ∧ t = σ)) 0 0 nC σ 0 [(0, .ref (bK (mkB Z) 2))] []
  unfold f_JS_coder_7d493_s2 at h
  refine V.gcs sf_JS_38 d_JS_coder_7d493_0 ?_
  refine V.if_eq (tgt := 13) d_JS_coder_7d493_3 (by decide) (fun hc3 => ?_) (fun hc3 => ?_)
  · replace h := ite_t hc3 h
    refine V.iconst (v := 1) d_JS_coder_7d493_13 (by decide) ?_
    cases h
    exact V.zret rfl rfl d_JS_coder_7d493_14 ⟨rfl, rfl⟩
  · replace h := ite_f hc3 h
    refine V.aload_n d_JS_coder_7d493_6 rfl 0 rfl ?_
    refine V.scod (by decide) sf_JS_15 d_JS_coder_7d493_7 ?_
    refine V.goto (tgt := 14) d_JS_coder_7d493_10 (by decide) ?_
    cases h
    exact V.zret rfl rfl d_JS_coder_7d493_14 ⟨rfl, rfl⟩
def f_JS_length_8abf5_s2 : Option (Int32) :=
  bnd1 (f_JS_coder_7d493_s2) fun r6 =>
  some (2 >>> (r6 &&& 31))
set_option maxHeartbeats 4000000 in
set_option maxRecDepth 20000 in
theorem c_JS_length_8abf5_s2 (Z : ZX) {σ : Mem} {r : Int32} (h : f_JS_length_8abf5_s2 = some r) : CI Z 1 m_JS_length_8abf5 [.ref (bK (mkB Z) 2)] σ r σ := by
  refine Ct.of (by decide +kernel) (Nat.le_of_ble_eq_true rfl) (fun Y => ?_)
  show V (mkB Z) Y m_JS_length_8abf5 1 (QP (mkB Z) Y nC 0 0 (fun v t => v = some (.int r) ∧ t = σ)) 0 0 nC σ 0 [(0, .ref (bK (mkB Z) 2))] []
  unfold f_JS_length_8abf5_s2 at h
  refine V.aload_n d_JS_length_8abf5_0 rfl 0 rfl ?_
  refine V.sval (by decide) sf_JS_9 d_JS_length_8abf5_1 ?_
  refine V.slen (x := 2) (by decide) (by decide) d_JS_length_8abf5_4 ?_
  refine V.aload_n d_JS_length_8abf5_5 rfl 0 rfl ?_
  obtain ⟨r6, h1, h⟩ := bnd1_e h
  refine V.uI (as := []) (st := [.int 2]) (by decide) (c_JS_coder_7d493_s2 Z h1) k_JS_coder_7d493 rfl lk_JS_335 (by decide) rfl rfl (Nat.le_of_ble_eq_true rfl) d_JS_length_8abf5_6 ?_
  refine V.ishr d_JS_length_8abf5_9 ?_
  cases h
  exact V.iret rfl d_JS_length_8abf5_10 ⟨rfl, rfl⟩
def B_JL_indexOfChar_4cfef_s2_l7 (N : Nat) (a3 : Int32) (a4 : Int32) (rec : Int32 → Option (Int32)) (x5 : Int32) : Option (Int32) :=
  if a3 ≤ x5 then
    (some (-1))
  else
    (grd (inb x5 2) <|
    if (stb 2 (x5.toNatClampNeg)) = a4 then
      (some x5)
    else
      (letv (x5 + 1) fun v25 =>
      rec v25))
def L_JL_indexOfChar_4cfef_s2_l7 (N : Nat) (a3 : Int32) (a4 : Int32) : Nat → Int32 → Option (Int32)
  | 0, _ => none
  | k + 1, x5 => B_JL_indexOfChar_4cfef_s2_l7 N a3 a4 (L_JL_indexOfChar_4cfef_s2_l7 N a3 a4 k) x5
set_option maxHeartbeats 4000000 in
set_option maxRecDepth 20000 in
theorem cL_JL_indexOfChar_4cfef_s2_l7 (Z : ZX) {Y : YX} {post : Option Value → Mem → Prop} {N : Nat} {a3 : Int32} {a4 : Int32} {σ : Mem} {Good : Int32 → Prop} (hR : ∀ (v : Int32), Good v → post (some (.int v)) σ) : ∀ (k : Nat) (x5 : Int32) (res : Int32), L_JL_indexOfChar_4cfef_s2_l7 N a3 a4 k x5 = some res → Good res → V (mkB Z) Y m_JL_indexOfChar_4cfef 0 (QP (mkB Z) Y nC 0 0 post) 0 0 nC σ 7 [(0, .ref (bV (mkB Z) 2)), (3, .int a3), (4, .int a4), (5, .int x5)] [] := by
  intro k
  induction k with
  | zero => intro x5 res h; cases h
  | succ k ih =>
    intro x5 res h hg
    replace h : B_JL_indexOfChar_4cfef_s2_l7 N a3 a4 (L_JL_indexOfChar_4cfef_s2_l7 N a3 a4 k) x5 = some res := h
    unfold B_JL_indexOfChar_4cfef_s2_l7 at h
    refine V.iload d_JL_indexOfChar_4cfef_7 3 rfl ?_
    refine V.iload_n d_JL_indexOfChar_4cfef_9 rfl 1 rfl ?_
    refine V.icmp_ge (tgt := 31) d_JL_indexOfChar_4cfef_10 (by decide) (fun hc10 => ?_) (fun hc10 => ?_)
    · replace h := ite_t hc10 h
      refine V.iconst (v := (-1)) d_JL_indexOfChar_4cfef_31 (by decide) ?_
      cases h
      exact V.iret rfl d_JL_indexOfChar_4cfef_32 (hR _ hg)
    · replace h := ite_f hc10 h
      refine V.aload_n d_JL_indexOfChar_4cfef_13 rfl 0 rfl ?_
      refine V.iload d_JL_indexOfChar_4cfef_14 3 rfl ?_
      obtain ⟨gq, h⟩ := grd_e h
      refine V.sld (by decide) (inb_e gq) rfl d_JL_indexOfChar_4cfef_16 ?_
      refine V.iload d_JL_indexOfChar_4cfef_17 2 rfl ?_
      refine V.icmp_ne (tgt := 25) d_JL_indexOfChar_4cfef_19 (by decide) (fun hc19 => ?_) (fun hc19 => ?_)
      · replace h := ite_f hc19 h
        obtain ⟨v25, e_v25, h⟩ := letv_e h
        refine V.iinc (v := v25) (lv' := [(5, .int v25), (0, .ref (bV (mkB Z) 2)), (3, .int a3), (4, .int a4)]) d_JL_indexOfChar_4cfef_25 3 rfl (by rw [e_v25]; rfl) (by decide) rfl ?_
        refine V.goto (tgt := 7) d_JL_indexOfChar_4cfef_28 (by decide) ?_
        exact V.pick [1, 2, 3, 0] rfl (ih _ _ h hg)
      · replace h := ite_t hc19 h
        refine V.iload d_JL_indexOfChar_4cfef_22 3 rfl ?_
        cases h
        exact V.iret rfl d_JL_indexOfChar_4cfef_24 (hR _ hg)
def f_JL_indexOfChar_4cfef_s2 (N : Nat) (a1 : Int32) (a2 : Int32) (a3 : Int32) : Option (Int32) :=
  letv (a1.toInt8.toInt32) fun v2 =>
  L_JL_indexOfChar_4cfef_s2_l7 N a3 v2 N a2
set_option maxHeartbeats 4000000 in
set_option maxRecDepth 20000 in
theorem c_JL_indexOfChar_4cfef_s2 (Z : ZX) {N : Nat} {σ : Mem} {a1 : Int32} {a2 : Int32} {a3 : Int32} {r : Int32} (h : f_JL_indexOfChar_4cfef_s2 N a1 a2 a3 = some r) : CI Z 0 m_JL_indexOfChar_4cfef [.ref (bV (mkB Z) 2), .int a1, .int a2, .int a3] σ r σ := by
  refine Ct.of (by decide +kernel) (Nat.le_of_ble_eq_true rfl) (fun Y => ?_)
  show V (mkB Z) Y m_JL_indexOfChar_4cfef 0 (QP (mkB Z) Y nC 0 0 (fun v t => v = some (.int r) ∧ t = σ)) 0 0 nC σ 0 [(0, .ref (bV (mkB Z) 2)), (1, .int a1), (2, .int a2), (3, .int a3)] []
  unfold f_JL_indexOfChar_4cfef_s2 at h
  refine V.iload_n d_JL_indexOfChar_4cfef_0 rfl 1 rfl ?_
  refine V.i2b d_JL_indexOfChar_4cfef_1 ?_
  obtain ⟨v2, e_v2, h⟩ := letv_e h
  refine V.topI e_v2 ?_
  refine V.istore (lv' := [(4, .int v2), (0, .ref (bV (mkB Z) 2)), (1, .int a1), (2, .int a2), (3, .int a3)]) d_JL_indexOfChar_4cfef_2 (by decide) rfl ?_
  refine V.iload_n d_JL_indexOfChar_4cfef_4 rfl 3 rfl ?_
  refine V.istore (lv' := [(5, .int a2), (4, .int v2), (0, .ref (bV (mkB Z) 2)), (1, .int a1), (2, .int a2), (3, .int a3)]) d_JL_indexOfChar_4cfef_5 (by decide) rfl ?_
  refine V.pick [2, 5, 1, 0] rfl (cL_JL_indexOfChar_4cfef_s2_l7 Z (Good := fun z => z = _) (fun r7v he => ?_) N _ _ h rfl)
  · cases he
    exact ⟨rfl, rfl⟩
def f_JL_indexOf_4cfef_s2 (N : Nat) (a1 : Int32) (a2 : Int32) (a3 : Int32) : Option (Int32) :=
  bnd1 (f_JL_canEncode_9a6ad a1) fun r1 =>
  if r1 = 0 then
    (some (-1))
  else
    (bnd1 (f_JM_max_7cf53 a2 0) fun r11 =>
    bnd1 (f_JM_min_7cf53 a3 2) fun r18 =>
    if r11 < r18 then
      (bnd1 (f_JL_indexOfChar_4cfef_s2 N a1 r11 r18) fun r33 =>
      some r33)
    else
      (some (-1)))
set_option maxHeartbeats 4000000 in
set_option maxRecDepth 20000 in
theorem c_JL_indexOf_4cfef_s2 (Z : ZX) {N : Nat} {σ : Mem} {a1 : Int32} {a2 : Int32} {a3 : Int32} {r : Int32} (h : f_JL_indexOf_4cfef_s2 N a1 a2 a3 = some r) : CI Z 1 m_JL_indexOf_4cfef [.ref (bV (mkB Z) 2), .int a1, .int a2, .int a3] σ r σ := by
  refine Ct.of (by decide +kernel) (Nat.le_of_ble_eq_true rfl) (fun Y => ?_)
  show V (mkB Z) Y m_JL_indexOf_4cfef 1 (QP (mkB Z) Y nC 0 0 (fun v t => v = some (.int r) ∧ t = σ)) 0 0 nC σ 0 [(0, .ref (bV (mkB Z) 2)), (1, .int a1), (2, .int a2), (3, .int a3)] []
  unfold f_JL_indexOf_4cfef_s2 at h
  refine V.iload_n d_JL_indexOf_4cfef_0 rfl 1 rfl ?_
  obtain ⟨r1, h1, h⟩ := bnd1_e h
  refine V.sI (as := [.int a1]) (st := []) (c_JL_canEncode_9a6ad Z h1) k_JL_canEncode_9a6ad lk_JL_88 (by decide) rfl rfl (Nat.le_of_ble_eq_true rfl) d_JL_indexOf_4cfef_1 ?_
  refine V.if_ne (tgt := 9) d_JL_indexOf_4cfef_4 (by decide) (fun hc4 => ?_) (fun hc4 => ?_)
  · replace h := ite_f hc4 h
    refine V.iload_n d_JL_indexOf_4cfef_9 rfl 2 rfl ?_
    refine V.iconst (v := 0) d_JL_indexOf_4cfef_10 (by decide) ?_
    obtain ⟨r11, h1, h⟩ := bnd1_e h
    refine V.sI (as := [.int a2, .int 0]) (st := []) (c_JM_max_7cf53 Z h1) k_JM_max_7cf53 lk_JL_92 (by decide) rfl rfl (Nat.le_of_ble_eq_true rfl) d_JL_indexOf_4cfef_11 ?_
    refine V.istore_n (lv' := [(2, .int r11), (0, .ref (bV (mkB Z) 2)), (1, .int a1), (3, .int a3)]) d_JL_indexOf_4cfef_14 rfl (by decide) rfl ?_
    refine V.iload_n d_JL_indexOf_4cfef_15 rfl 3 rfl ?_
    refine V.aload_n d_JL_indexOf_4cfef_16 rfl 1 rfl ?_
    refine V.slen (x := 2) (by decide) (by decide) d_JL_indexOf_4cfef_17 ?_
    obtain ⟨r18, h1, h⟩ := bnd1_e h
    refine V.sI (as := [.int a3, .int 2]) (st := []) (c_JM_min_7cf53 Z h1) k_JM_min_7cf53 lk_JL_38 (by decide) rfl rfl (Nat.le_of_ble_eq_true rfl) d_JL_indexOf_4cfef_18 ?_
    refine V.istore_n (lv' := [(3, .int r18), (2, .int r11), (0, .ref (bV (mkB Z) 2)), (1, .int a1)]) d_JL_indexOf_4cfef_21 rfl (by decide) rfl ?_
    refine V.iload_n d_JL_indexOf_4cfef_22 rfl 1 rfl ?_
    refine V.iload_n d_JL_indexOf_4cfef_23 rfl 0 rfl ?_
    refine V.icmp_lt (tgt := 29) d_JL_indexOf_4cfef_24 (by decide) (fun hc24 => ?_) (fun hc24 => ?_)
    · replace h := ite_t hc24 h
      refine V.aload_n d_JL_indexOf_4cfef_29 rfl 2 rfl ?_
      refine V.iload_n d_JL_indexOf_4cfef_30 rfl 3 rfl ?_
      refine V.iload_n d_JL_indexOf_4cfef_31 rfl 1 rfl ?_
      refine V.iload_n d_JL_indexOf_4cfef_32 rfl 0 rfl ?_
      obtain ⟨r33, h1, h⟩ := bnd1_e h
      refine V.sI (as := [.ref (bV (mkB Z) 2), .int a1, .int r11, .int r18]) (st := []) (c_JL_indexOfChar_4cfef_s2 Z h1) k_JL_indexOfChar_4cfef lk_JL_95 (by decide) rfl rfl (Nat.le_of_ble_eq_true rfl) d_JL_indexOf_4cfef_33 ?_
      cases h
      exact V.iret rfl d_JL_indexOf_4cfef_36 ⟨rfl, rfl⟩
    · replace h := ite_f hc24 h
      refine V.iconst (v := (-1)) d_JL_indexOf_4cfef_27 (by decide) ?_
      cases h
      exact V.iret rfl d_JL_indexOf_4cfef_28 ⟨rfl, rfl⟩
  · replace h := ite_t hc4 h
    refine V.iconst (v := (-1)) d_JL_indexOf_4cfef_7 (by decide) ?_
    cases h
    exact V.iret rfl d_JL_indexOf_4cfef_8 ⟨rfl, rfl⟩
def f_JS_indexOf_7cf53_s2 (N : Nat) (a1 : Int32) (a2 : Int32) : Option (Int32) :=
  bnd1 (f_JS_isLatin1_aae02_s2) fun r1 =>
  grd (decide (¬ r1 = 0)) <|
  bnd1 (f_JS_length_8abf5_s2) fun r14 =>
  bnd1 (f_JL_indexOf_4cfef_s2 N a1 a2 r14) fun r17 =>
  some r17
set_option maxHeartbeats 4000000 in
set_option maxRecDepth 20000 in
theorem c_JS_indexOf_7cf53_s2 (Z : ZX) {N : Nat} {σ : Mem} {a1 : Int32} {a2 : Int32} {r : Int32} (h : f_JS_indexOf_7cf53_s2 N a1 a2 = some r) : CI Z 2 m_JS_indexOf_7cf53 [.ref (bK (mkB Z) 2), .int a1, .int a2] σ r σ := by
  refine Ct.of (by decide +kernel) (Nat.le_of_ble_eq_true rfl) (fun Y => ?_)
  show V (mkB Z) Y m_JS_indexOf_7cf53 2 (QP (mkB Z) Y nC 0 0 (fun v t => v = some (.int r) ∧ t = σ)) 0 0 nC σ 0 [(0, .ref (bK (mkB Z) 2)), (1, .int a1), (2, .int a2)] []
  unfold f_JS_indexOf_7cf53_s2 at h
  refine V.aload_n d_JS_indexOf_7cf53_0 rfl 0 rfl ?_
  obtain ⟨r1, h1, h⟩ := bnd1_e h
  refine V.uI (as := []) (st := []) (by decide) (c_JS_isLatin1_aae02_s2 Z h1) k_JS_isLatin1_aae02 rfl lk_JS_492 (by decide) rfl rfl (Nat.le_of_ble_eq_true rfl) d_JS_indexOf_7cf53_1 ?_
  obtain ⟨gq, h⟩ := grd_e h
  refine V.if_eq (tgt := 23) d_JS_indexOf_7cf53_4 (by decide) (fun hc => absurd hc (of_decide_eq_true gq)) (fun _ => ?_)
  refine V.aload_n d_JS_indexOf_7cf53_7 rfl 0 rfl ?_
  refine V.sval (by decide) sf_JS_9 d_JS_indexOf_7cf53_8 ?_
  refine V.iload_n d_JS_indexOf_7cf53_11 rfl 1 rfl ?_
  refine V.iload_n d_JS_indexOf_7cf53_12 rfl 2 rfl ?_
  refine V.aload_n d_JS_indexOf_7cf53_13 rfl 0 rfl ?_
  obtain ⟨r14, h1, h⟩ := bnd1_e h
  refine V.uI (as := []) (st := [.int a2, .int a1, .ref (bV (mkB Z) 2)]) (by decide) (c_JS_length_8abf5_s2 Z h1) k_JS_length_8abf5 rfl lk_JS_505 (by decide) rfl rfl (Nat.le_of_ble_eq_true rfl) d_JS_indexOf_7cf53_14 ?_
  obtain ⟨r17, h1, h⟩ := bnd1_e h
  refine V.sI (as := [.ref (bV (mkB Z) 2), .int a1, .int a2, .int r14]) (st := []) (c_JL_indexOf_4cfef_s2 Z h1) k_JL_indexOf_4cfef lk_JS_637 (by decide) rfl rfl (Nat.le_of_ble_eq_true rfl) d_JS_indexOf_7cf53_17 ?_
  refine V.goto (tgt := 36) d_JS_indexOf_7cf53_20 (by decide) ?_
  cases h
  exact V.iret rfl d_JS_indexOf_7cf53_36 ⟨rfl, rfl⟩
def f_JS_indexOf_0f7a4_s2 (N : Nat) (a1 : Int32) : Option (Int32) :=
  bnd1 (f_JS_indexOf_7cf53_s2 N a1 0) fun r3 =>
  some r3
set_option maxHeartbeats 4000000 in
set_option maxRecDepth 20000 in
theorem c_JS_indexOf_0f7a4_s2 (Z : ZX) {N : Nat} {σ : Mem} {a1 : Int32} {r : Int32} (h : f_JS_indexOf_0f7a4_s2 N a1 = some r) : CI Z 3 m_JS_indexOf_0f7a4 [.ref (bK (mkB Z) 2), .int a1] σ r σ := by
  refine Ct.of (by decide +kernel) (Nat.le_of_ble_eq_true rfl) (fun Y => ?_)
  show V (mkB Z) Y m_JS_indexOf_0f7a4 3 (QP (mkB Z) Y nC 0 0 (fun v t => v = some (.int r) ∧ t = σ)) 0 0 nC σ 0 [(0, .ref (bK (mkB Z) 2)), (1, .int a1)] []
  unfold f_JS_indexOf_0f7a4_s2 at h
  refine V.aload_n d_JS_indexOf_0f7a4_0 rfl 0 rfl ?_
  refine V.iload_n d_JS_indexOf_0f7a4_1 rfl 1 rfl ?_
  refine V.iconst (v := 0) d_JS_indexOf_0f7a4_2 (by decide) ?_
  obtain ⟨r3, h1, h⟩ := bnd1_e h
  refine V.uI (as := [.int a1, .int 0]) (st := []) (by decide) (c_JS_indexOf_7cf53_s2 Z h1) k_JS_indexOf_7cf53 rfl lk_JS_633 (by decide) rfl rfl (Nat.le_of_ble_eq_true rfl) d_JS_indexOf_0f7a4_3 ?_
  cases h
  exact V.iret rfl d_JS_indexOf_0f7a4_6 ⟨rfl, rfl⟩
def f_Rd_isOneOf_s2 (N : Nat) (σ : Mem) : Option (Int32) :=
  bnd1 (f_Rd_sign σ) fun r1 =>
  if r1 < 0 then
    (some 0)
  else
    (bnd1 (f_JS_indexOf_0f7a4_s2 N ((r1.toUInt32 % 65536).toInt32)) fun r12 =>
    if r12 < 0 then
      (some 0)
    else
      (some 1))
set_option maxHeartbeats 4000000 in
set_option maxRecDepth 20000 in
theorem c_Rd_isOneOf_s2 (Z : ZX) {N : Nat} {σ : Mem} {r : Int32} (h : f_Rd_isOneOf_s2 N σ = some r) : CI Z 4 m_Rd_isOneOf [rf Z 17, .ref (bK (mkB Z) 2)] σ r σ := by
  refine Ct.of (by decide +kernel) (Nat.le_of_ble_eq_true rfl) (fun Y => ?_)
  show V (mkB Z) Y m_Rd_isOneOf 4 (QP (mkB Z) Y nC 0 0 (fun v t => v = some (.int r) ∧ t = σ)) 0 0 nC σ 0 [(0, rf Z 17), (1, .ref (bK (mkB Z) 2))] []
  unfold f_Rd_isOneOf_s2 at h
  refine V.aload_n d_Rd_isOneOf_0 rfl 0 rfl ?_
  obtain ⟨r1, h1, h⟩ := bnd1_e h
  refine V.vI (as := []) (st := []) (c_Rd_sign Z h1) k_Rd_sign lk_Rd_58 (by decide) rfl (by decide) ly_17 ok_Rd.1 rfl (Nat.le_of_ble_eq_true rfl) d_Rd_isOneOf_1 ?_
  refine V.istore_n (lv' := [(2, .int r1), (0, rf Z 17), (1, .ref (bK (mkB Z) 2))]) d_Rd_isOneOf_4 rfl (by decide) rfl ?_
  refine V.iload_n d_Rd_isOneOf_5 rfl 0 rfl ?_
  refine V.if_lt (tgt := 22) d_Rd_isOneOf_6 (by decide) (fun hc6 => ?_) (fun hc6 => ?_)
  · replace h := ite_t hc6 h
    refine V.iconst (v := 0) d_Rd_isOneOf_22 (by decide) ?_
    cases h
    exact V.zret rfl rfl d_Rd_isOneOf_23 ⟨rfl, rfl⟩
  · replace h := ite_f hc6 h
    refine V.aload_n d_Rd_isOneOf_9 rfl 2 rfl ?_
    refine V.iload_n d_Rd_isOneOf_10 rfl 0 rfl ?_
    refine V.i2c d_Rd_isOneOf_11 ?_
    obtain ⟨r12, h1, h⟩ := bnd1_e h
    refine V.uI (as := [.int ((r1.toUInt32 % 65536).toInt32)]) (st := []) (by decide) (c_JS_indexOf_0f7a4_s2 Z h1) k_JS_indexOf_0f7a4 rfl lk_Rd_61 (by decide) rfl rfl (Nat.le_of_ble_eq_true rfl) d_Rd_isOneOf_12 ?_
    refine V.if_lt (tgt := 22) d_Rd_isOneOf_15 (by decide) (fun hc15 => ?_) (fun hc15 => ?_)
    · replace h := ite_t hc15 h
      refine V.iconst (v := 0) d_Rd_isOneOf_22 (by decide) ?_
      cases h
      exact V.zret rfl rfl d_Rd_isOneOf_23 ⟨rfl, rfl⟩
    · replace h := ite_f hc15 h
      refine V.iconst (v := 1) d_Rd_isOneOf_18 (by decide) ?_
      refine V.goto (tgt := 23) d_Rd_isOneOf_19 (by decide) ?_
      cases h
      exact V.zret rfl rfl d_Rd_isOneOf_23 ⟨rfl, rfl⟩
def f_JS_isLatin1_aae02_s3 : Option (Int32) :=
  if (1 : Int32) = 0 then
    (some 0)
  else
    (if (0 : Int32) = 0 then
      (some 1)
    else
      (some 0))
set_option maxHeartbeats 4000000 in
set_option maxRecDepth 20000 in
theorem c_JS_isLatin1_aae02_s3 (Z : ZX) {σ : Mem} {r : Int32} (h : f_JS_isLatin1_aae02_s3 = some r) : CI Z 0 m_JS_isLatin1_aae02 [.ref (bK (mkB Z) 3)] σ r σ := by
  refine Ct.of (by decide +kernel) (Nat.le_of_ble_eq_true rfl) (fun Y => ?_)
  show V (mkB Z) Y m_JS_isLatin1_aae02 0 (QP (mkB Z) Y nC 0 0 (fun v t => v = some (.int r) ∧ t = σ)) 0 0 nC σ 0 [(0, .ref (bK (mkB Z) 3))] []
  unfold f_JS_isLatin1_aae02_s3 at h
  refine V.gcs sf_JS_38 d_JS_isLatin1_aae02_0 ?_
  refine V.if_eq (tgt := 17) d_JS_isLatin1_aae02_3 (by decide) (fun hc3 => ?_) (fun hc3 => ?_)
  · replace h := ite_t hc3 h
    refine V.iconst (v := 0) d_JS_isLatin1_aae02_17 (by decide) ?_
    cases h
    exact V.zret rfl rfl d_JS_isLatin1_aae02_18 ⟨rfl, rfl⟩
  · replace h := ite_f hc3 h
    refine V.aload_n d_JS_isLatin1_aae02_6 rfl 0 rfl ?_
    refine V.scod (by decide) sf_JS_15 d_JS_isLatin1_aae02_7 ?_
    refine V.if_ne (tgt := 17) d_JS_isLatin1_aae02_10 (by decide) (fun hc10 => ?_) (fun hc10 => ?_)
    · replace h := ite_f hc10 h
      refine V.iconst (v := 0) d_JS_isLatin1_aae02_17 (by decide) ?_
      cases h
      exact V.zret rfl rfl d_JS_isLatin1_aae02_18 ⟨rfl, rfl⟩
    · replace h := ite_t hc10 h
      refine V.iconst (v := 1) d_JS_isLatin1_aae02_13 (by decide) ?_
      refine V.goto (tgt := 18) d_JS_isLatin1_aae02_14 (by decide) ?_
      cases h
      exact V.zret rfl rfl d_JS_isLatin1_aae02_18 ⟨rfl, rfl⟩
def f_JS_coder_7d493_s3 : Option (Int32) :=
  if (1 : Int32) = 0 then
    (some 1)
  else
    (some 0)
set_option maxHeartbeats 4000000 in
set_option maxRecDepth 20000 in
theorem c_JS_coder_7d493_s3 (Z : ZX) {σ : Mem} {r : Int32} (h : f_JS_coder_7d493_s3 = some r) : CI Z 0 m_JS_coder_7d493 [.ref (bK (mkB Z) 3)] σ r σ := by
  refine Ct.of (by decide +kernel) (Nat.le_of_ble_eq_true rfl) (fun Y => ?_)
  show V (mkB Z) Y m_JS_coder_7d493 0 (QP (mkB Z) Y nC 0 0 (fun v t => v = some (.int r) ∧ t = σ)) 0 0 nC σ 0 [(0, .ref (bK (mkB Z) 3))] []
  unfold f_JS_coder_7d493_s3 at h
  refine V.gcs sf_JS_38 d_JS_coder_7d493_0 ?_
  refine V.if_eq (tgt := 13) d_JS_coder_7d493_3 (by decide) (fun hc3 => ?_) (fun hc3 => ?_)
  · replace h := ite_t hc3 h
    refine V.iconst (v := 1) d_JS_coder_7d493_13 (by decide) ?_
    cases h
    exact V.zret rfl rfl d_JS_coder_7d493_14 ⟨rfl, rfl⟩
  · replace h := ite_f hc3 h
    refine V.aload_n d_JS_coder_7d493_6 rfl 0 rfl ?_
    refine V.scod (by decide) sf_JS_15 d_JS_coder_7d493_7 ?_
    refine V.goto (tgt := 14) d_JS_coder_7d493_10 (by decide) ?_
    cases h
    exact V.zret rfl rfl d_JS_coder_7d493_14 ⟨rfl, rfl⟩
def f_JS_length_8abf5_s3 : Option (Int32) :=
  bnd1 (f_JS_coder_7d493_s3) fun r6 =>
  some (3 >>> (r6 &&& 31))
set_option maxHeartbeats 4000000 in
set_option maxRecDepth 20000 in
theorem c_JS_length_8abf5_s3 (Z : ZX) {σ : Mem} {r : Int32} (h : f_JS_length_8abf5_s3 = some r) : CI Z 1 m_JS_length_8abf5 [.ref (bK (mkB Z) 3)] σ r σ := by
  refine Ct.of (by decide +kernel) (Nat.le_of_ble_eq_true rfl) (fun Y => ?_)
  show V (mkB Z) Y m_JS_length_8abf5 1 (QP (mkB Z) Y nC 0 0 (fun v t => v = some (.int r) ∧ t = σ)) 0 0 nC σ 0 [(0, .ref (bK (mkB Z) 3))] []
  unfold f_JS_length_8abf5_s3 at h
  refine V.aload_n d_JS_length_8abf5_0 rfl 0 rfl ?_
  refine V.sval (by decide) sf_JS_9 d_JS_length_8abf5_1 ?_
  refine V.slen (x := 3) (by decide) (by decide) d_JS_length_8abf5_4 ?_
  refine V.aload_n d_JS_length_8abf5_5 rfl 0 rfl ?_
  obtain ⟨r6, h1, h⟩ := bnd1_e h
  refine V.uI (as := []) (st := [.int 3]) (by decide) (c_JS_coder_7d493_s3 Z h1) k_JS_coder_7d493 rfl lk_JS_335 (by decide) rfl rfl (Nat.le_of_ble_eq_true rfl) d_JS_length_8abf5_6 ?_
  refine V.ishr d_JS_length_8abf5_9 ?_
  cases h
  exact V.iret rfl d_JS_length_8abf5_10 ⟨rfl, rfl⟩
def B_JL_indexOfChar_4cfef_s3_l7 (N : Nat) (a3 : Int32) (a4 : Int32) (rec : Int32 → Option (Int32)) (x5 : Int32) : Option (Int32) :=
  if a3 ≤ x5 then
    (some (-1))
  else
    (grd (inb x5 3) <|
    if (stb 3 (x5.toNatClampNeg)) = a4 then
      (some x5)
    else
      (letv (x5 + 1) fun v25 =>
      rec v25))
def L_JL_indexOfChar_4cfef_s3_l7 (N : Nat) (a3 : Int32) (a4 : Int32) : Nat → Int32 → Option (Int32)
  | 0, _ => none
  | k + 1, x5 => B_JL_indexOfChar_4cfef_s3_l7 N a3 a4 (L_JL_indexOfChar_4cfef_s3_l7 N a3 a4 k) x5
set_option maxHeartbeats 4000000 in
set_option maxRecDepth 20000 in
theorem cL_JL_indexOfChar_4cfef_s3_l7 (Z : ZX) {Y : YX} {post : Option Value → Mem → Prop} {N : Nat} {a3 : Int32} {a4 : Int32} {σ : Mem} {Good : Int32 → Prop} (hR : ∀ (v : Int32), Good v → post (some (.int v)) σ) : ∀ (k : Nat) (x5 : Int32) (res : Int32), L_JL_indexOfChar_4cfef_s3_l7 N a3 a4 k x5 = some res → Good res → V (mkB Z) Y m_JL_indexOfChar_4cfef 0 (QP (mkB Z) Y nC 0 0 post) 0 0 nC σ 7 [(0, .ref (bV (mkB Z) 3)), (3, .int a3), (4, .int a4), (5, .int x5)] [] := by
  intro k
  induction k with
  | zero => intro x5 res h; cases h
  | succ k ih =>
    intro x5 res h hg
    replace h : B_JL_indexOfChar_4cfef_s3_l7 N a3 a4 (L_JL_indexOfChar_4cfef_s3_l7 N a3 a4 k) x5 = some res := h
    unfold B_JL_indexOfChar_4cfef_s3_l7 at h
    refine V.iload d_JL_indexOfChar_4cfef_7 3 rfl ?_
    refine V.iload_n d_JL_indexOfChar_4cfef_9 rfl 1 rfl ?_
    refine V.icmp_ge (tgt := 31) d_JL_indexOfChar_4cfef_10 (by decide) (fun hc10 => ?_) (fun hc10 => ?_)
    · replace h := ite_t hc10 h
      refine V.iconst (v := (-1)) d_JL_indexOfChar_4cfef_31 (by decide) ?_
      cases h
      exact V.iret rfl d_JL_indexOfChar_4cfef_32 (hR _ hg)
    · replace h := ite_f hc10 h
      refine V.aload_n d_JL_indexOfChar_4cfef_13 rfl 0 rfl ?_
      refine V.iload d_JL_indexOfChar_4cfef_14 3 rfl ?_
      obtain ⟨gq, h⟩ := grd_e h
      refine V.sld (by decide) (inb_e gq) rfl d_JL_indexOfChar_4cfef_16 ?_
      refine V.iload d_JL_indexOfChar_4cfef_17 2 rfl ?_
      refine V.icmp_ne (tgt := 25) d_JL_indexOfChar_4cfef_19 (by decide) (fun hc19 => ?_) (fun hc19 => ?_)
      · replace h := ite_f hc19 h
        obtain ⟨v25, e_v25, h⟩ := letv_e h
        refine V.iinc (v := v25) (lv' := [(5, .int v25), (0, .ref (bV (mkB Z) 3)), (3, .int a3), (4, .int a4)]) d_JL_indexOfChar_4cfef_25 3 rfl (by rw [e_v25]; rfl) (by decide) rfl ?_
        refine V.goto (tgt := 7) d_JL_indexOfChar_4cfef_28 (by decide) ?_
        exact V.pick [1, 2, 3, 0] rfl (ih _ _ h hg)
      · replace h := ite_t hc19 h
        refine V.iload d_JL_indexOfChar_4cfef_22 3 rfl ?_
        cases h
        exact V.iret rfl d_JL_indexOfChar_4cfef_24 (hR _ hg)
def f_JL_indexOfChar_4cfef_s3 (N : Nat) (a1 : Int32) (a2 : Int32) (a3 : Int32) : Option (Int32) :=
  letv (a1.toInt8.toInt32) fun v2 =>
  L_JL_indexOfChar_4cfef_s3_l7 N a3 v2 N a2
set_option maxHeartbeats 4000000 in
set_option maxRecDepth 20000 in
theorem c_JL_indexOfChar_4cfef_s3 (Z : ZX) {N : Nat} {σ : Mem} {a1 : Int32} {a2 : Int32} {a3 : Int32} {r : Int32} (h : f_JL_indexOfChar_4cfef_s3 N a1 a2 a3 = some r) : CI Z 0 m_JL_indexOfChar_4cfef [.ref (bV (mkB Z) 3), .int a1, .int a2, .int a3] σ r σ := by
  refine Ct.of (by decide +kernel) (Nat.le_of_ble_eq_true rfl) (fun Y => ?_)
  show V (mkB Z) Y m_JL_indexOfChar_4cfef 0 (QP (mkB Z) Y nC 0 0 (fun v t => v = some (.int r) ∧ t = σ)) 0 0 nC σ 0 [(0, .ref (bV (mkB Z) 3)), (1, .int a1), (2, .int a2), (3, .int a3)] []
  unfold f_JL_indexOfChar_4cfef_s3 at h
  refine V.iload_n d_JL_indexOfChar_4cfef_0 rfl 1 rfl ?_
  refine V.i2b d_JL_indexOfChar_4cfef_1 ?_
  obtain ⟨v2, e_v2, h⟩ := letv_e h
  refine V.topI e_v2 ?_
  refine V.istore (lv' := [(4, .int v2), (0, .ref (bV (mkB Z) 3)), (1, .int a1), (2, .int a2), (3, .int a3)]) d_JL_indexOfChar_4cfef_2 (by decide) rfl ?_
  refine V.iload_n d_JL_indexOfChar_4cfef_4 rfl 3 rfl ?_
  refine V.istore (lv' := [(5, .int a2), (4, .int v2), (0, .ref (bV (mkB Z) 3)), (1, .int a1), (2, .int a2), (3, .int a3)]) d_JL_indexOfChar_4cfef_5 (by decide) rfl ?_
  refine V.pick [2, 5, 1, 0] rfl (cL_JL_indexOfChar_4cfef_s3_l7 Z (Good := fun z => z = _) (fun r7v he => ?_) N _ _ h rfl)
  · cases he
    exact ⟨rfl, rfl⟩
