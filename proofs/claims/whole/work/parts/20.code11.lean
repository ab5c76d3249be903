abbrev m_Ma_nextAtNoon : MI := (⟨"ShadeTown$Market", "nextAtNoon", "(I)I"⟩, prog_6_method_13_code, 5, (Option.some Jvm.ClassFile.FieldType.int))
theorem d_Ma_nextAtNoon_0 : decode prog_6_method_13_code 0 = .ok (.iconst (-1), 1) := by decide +kernel
theorem d_Ma_nextAtNoon_1 : decode prog_6_method_13_code 1 = .ok (.istore_n 2, 1) := by decide +kernel
theorem d_Ma_nextAtNoon_2 : decode prog_6_method_13_code 2 = .ok (.iconst 0, 1) := by decide +kernel
theorem d_Ma_nextAtNoon_3 : decode prog_6_method_13_code 3 = .ok (.istore_n 3, 1) := by decide +kernel
theorem d_Ma_nextAtNoon_4 : decode prog_6_method_13_code 4 = .ok (.iload_n 3, 1) := by decide +kernel
theorem d_Ma_nextAtNoon_5 : decode prog_6_method_13_code 5 = .ok (.bipush 8, 2) := by decide +kernel
theorem d_Ma_nextAtNoon_66 : decode prog_6_method_13_code 66 = .ok (.iload_n 2, 1) := by decide +kernel
theorem d_Ma_nextAtNoon_67 : decode prog_6_method_13_code 67 = .ok (.ireturn, 1) := by decide +kernel
theorem d_Ma_nextAtNoon_10 : decode prog_6_method_13_code 10 = .ok (.aload_n 0, 1) := by decide +kernel
theorem d_Ma_nextAtNoon_11 : decode prog_6_method_13_code 11 = .ok (.iload_n 3, 1) := by decide +kernel
theorem d_Ma_nextAtNoon_12 : decode prog_6_method_13_code 12 = .ok (.invokevirtual 108, 3) := by decide +kernel
theorem lk_Ma_108 : Cond.methodLink "ShadeTown$Market" 108 ⟨"ShadeTown$Market", "isTold", "(I)Z"⟩ ∈ tblG := atG 1233 (by decide +kernel) rfl
theorem d_Ma_nextAtNoon_18 : decode prog_6_method_13_code 18 = .ok (.iload_n 1, 1) := by decide +kernel
theorem d_Ma_nextAtNoon_19 : decode prog_6_method_13_code 19 = .ok (.iload_n 3, 1) := by decide +kernel
theorem d_Ma_nextAtNoon_20 : decode prog_6_method_13_code 20 = .ok (.ishr, 1) := by decide +kernel
theorem d_Ma_nextAtNoon_21 : decode prog_6_method_13_code 21 = .ok (.iconst 1, 1) := by decide +kernel
theorem d_Ma_nextAtNoon_22 : decode prog_6_method_13_code 22 = .ok (.iand, 1) := by decide +kernel
theorem d_Ma_nextAtNoon_23 : decode prog_6_method_13_code 23 = .ok (.ifCond .ne 7, 3) := by decide +kernel
theorem d_Ma_nextAtNoon_15 : decode prog_6_method_13_code 15 = .ok (.ifCond .eq 15, 3) := by decide +kernel
theorem d_Ma_nextAtNoon_30 : decode prog_6_method_13_code 30 = .ok (.iconst 0, 1) := by decide +kernel
theorem d_Ma_nextAtNoon_26 : decode prog_6_method_13_code 26 = .ok (.iconst 1, 1) := by decide +kernel
theorem d_Ma_nextAtNoon_27 : decode prog_6_method_13_code 27 = .ok (.goto 4, 3) := by decide +kernel
theorem d_Ma_nextAtNoon_31 : decode prog_6_method_13_code 31 = .ok (.istore 4, 2) := by decide +kernel
theorem d_Ma_nextAtNoon_33 : decode prog_6_method_13_code 33 = .ok (.iload 4, 2) := by decide +kernel
theorem d_Ma_nextAtNoon_38 : decode prog_6_method_13_code 38 = .ok (.iload_n 2, 1) := by decide +kernel
theorem d_Ma_nextAtNoon_39 : decode prog_6_method_13_code 39 = .ok (.iconst (-1), 1) := by decide +kernel
theorem d_Ma_nextAtNoon_43 : decode prog_6_method_13_code 43 = .ok (.aload_n 0, 1) := by decide +kernel
theorem fl_Ma_38 : FL "ShadeTown$Market" 38 T_Ma 8 := atG 354 (by decide +kernel) rfl
theorem d_Ma_nextAtNoon_44 : decode prog_6_method_13_code 44 = .ok (.getfield 38, 3) := by decide +kernel
theorem d_Ma_nextAtNoon_47 : decode prog_6_method_13_code 47 = .ok (.iload_n 3, 1) := by decide +kernel
theorem d_Ma_nextAtNoon_48 : decode prog_6_method_13_code 48 = .ok (.iaload, 1) := by decide +kernel
theorem d_Ma_nextAtNoon_49 : decode prog_6_method_13_code 49 = .ok (.aload_n 0, 1) := by decide +kernel
theorem d_Ma_nextAtNoon_50 : decode prog_6_method_13_code 50 = .ok (.getfield 38, 3) := by decide +kernel
theorem d_Ma_nextAtNoon_53 : decode prog_6_method_13_code 53 = .ok (.iload_n 2, 1) := by decide +kernel
theorem d_Ma_nextAtNoon_54 : decode prog_6_method_13_code 54 = .ok (.iaload, 1) := by decide +kernel
theorem d_Ma_nextAtNoon_55 : decode prog_6_method_13_code 55 = .ok (.if_icmp .ge 5, 3) := by decide +kernel
theorem d_Ma_nextAtNoon_40 : decode prog_6_method_13_code 40 = .ok (.if_icmp .eq 18, 3) := by decide +kernel
theorem d_Ma_nextAtNoon_35 : decode prog_6_method_13_code 35 = .ok (.ifCond .eq 25, 3) := by decide +kernel
theorem d_Ma_nextAtNoon_58 : decode prog_6_method_13_code 58 = .ok (.iload_n 3, 1) := by decide +kernel
theorem d_Ma_nextAtNoon_59 : decode prog_6_method_13_code 59 = .ok (.istore_n 2, 1) := by decide +kernel
theorem d_Ma_nextAtNoon_60 : decode prog_6_method_13_code 60 = .ok (.iinc 3 1, 3) := by decide +kernel
theorem d_Ma_nextAtNoon_63 : decode prog_6_method_13_code 63 = .ok (.goto (-59), 3) := by decide +kernel
theorem d_Ma_nextAtNoon_7 : decode prog_6_method_13_code 7 = .ok (.if_icmp .ge 59, 3) := by decide +kernel
def B_Ma_nextAtNoon_l4 (N : Nat) (a1 : Int32) (σ : Mem) (rec : Int32 → Int32 → Option (Int32)) (x2 : Int32) (x3 : Int32) : Option (Int32) :=
  if 8 ≤ x3 then
    (some x2)
  else
    (bnd1 (f_Ma_isTold σ x3) fun r12 =>
    bnd1 ((
      bnd1 ((
        if r12 = 0 then
          (some 0)
        else
          (if (a1 >>> (x3 &&& 31)) &&& 1 = 0 then
            (some 1)
          else
            (some 0))) : Option (Nat)) fun t15b =>
      if t15b = 0 then
        (some 0)
      else
      (some 1)) : Option (Int32)) fun y15_s0 =>
    bnd1 ((
      bnd1 ((
        if y15_s0 = 0 then
          (some 0)
        else
          (if x2 = (-1) then
            (some 1)
          else
            (grd (inb x3 8) <|
            grd (inb x2 8) <|
            if (mI σ 55 (x2.toNatClampNeg)) ≤ (mI σ 55 (x3.toNatClampNeg)) then
              (some 0)
            else
              (some 1)))) : Option (Nat)) fun t35b =>
      if t35b = 0 then
        (some x2)
      else
      (some x3)) : Option (Int32)) fun y35_2 =>
    letv (x3 + 1) fun v60 =>
    rec y35_2 v60)
def L_Ma_nextAtNoon_l4 (N : Nat) (a1 : Int32) (σ : Mem) : Nat → Int32 → Int32 → Option (Int32)
  | 0, _, _ => none
  | k + 1, x2, x3 => B_Ma_nextAtNoon_l4 N a1 σ (L_Ma_nextAtNoon_l4 N a1 σ k) x2 x3
set_option maxHeartbeats 4000000 in
set_option maxRecDepth 20000 in
theorem cL_Ma_nextAtNoon_l4 (Z : ZX) {Y : YX} {post : Option Value → Mem → Prop} {N : Nat} {a1 : Int32} {σ : Mem} {Good : Int32 → Prop} (hR : ∀ (v : Int32), Good v → post (some (.int v)) σ) : ∀ (k : Nat) (x2 : Int32) (x3 : Int32) (res : Int32), L_Ma_nextAtNoon_l4 N a1 σ k x2 x3 = some res → Good res → V (mkB Z) Y m_Ma_nextAtNoon 2 (QP (mkB Z) Y nC 0 0 post) 0 0 nC σ 4 [(0, rf Z 47), (1, .int a1), (2, .int x2), (3, .int x3)] [] := by
  intro k
  induction k with
  | zero => intro x2 x3 res h; cases h
  | succ k ih =>
    intro x2 x3 res h hg
    replace h : B_Ma_nextAtNoon_l4 N a1 σ (L_Ma_nextAtNoon_l4 N a1 σ k) x2 x3 = some res := h
    unfold B_Ma_nextAtNoon_l4 at h
    refine V.iload_n d_Ma_nextAtNoon_4 rfl 3 rfl ?_
    refine V.bipush (v := 8) d_Ma_nextAtNoon_5 (by decide) ?_
    refine V.icmp_ge (tgt := 66) d_Ma_nextAtNoon_7 (by decide) (fun hc7 => ?_) (fun hc7 => ?_)
    · replace h := ite_t hc7 h
      refine V.iload_n d_Ma_nextAtNoon_66 rfl 2 rfl ?_
      cases h
      exact V.iret rfl d_Ma_nextAtNoon_67 (hR _ hg)
    · replace h := ite_f hc7 h
      refine V.aload_n d_Ma_nextAtNoon_10 rfl 0 rfl ?_
      refine V.iload_n d_Ma_nextAtNoon_11 rfl 3 rfl ?_
      obtain ⟨r12, h1, h⟩ := bnd1_e h
      refine V.vI (as := [.int x3]) (st := []) (c_Ma_isTold Z h1) k_Ma_isTold lk_Ma_108 (by decide) rfl (by decide) ly_47 ok_Ma.1 rfl (Nat.le_of_ble_eq_true rfl) d_Ma_nextAtNoon_12 ?_
      obtain ⟨s15, h1, h⟩ := bnd1_e h
      have J15_31 : ∀ (y15_s0 : Int32), s15 = y15_s0 → V (mkB Z) Y m_Ma_nextAtNoon 2 (QP (mkB Z) Y nC 0 0 post) 0 0 nC σ 31 [(0, rf Z 47), (1, .int a1), (2, .int x2), (3, .int x3)] [.int y15_s0] := by
        intro y15_s0 he
        rw [he] at h
        refine V.istore (lv' := [(4, .int y15_s0), (0, rf Z 47), (1, .int a1), (2, .int x2), (3, .int x3)]) d_Ma_nextAtNoon_31 (by decide) rfl ?_
        refine V.iload d_Ma_nextAtNoon_33 0 rfl ?_
        obtain ⟨s35, h1, h⟩ := bnd1_e h
        have J35_60 : ∀ (y35_2 : Int32), s35 = y35_2 → V (mkB Z) Y m_Ma_nextAtNoon 2 (QP (mkB Z) Y nC 0 0 post) 0 0 nC σ 60 [(0, rf Z 47), (1, .int a1), (2, .int y35_2), (3, .int x3)] [] := by
          intro y35_2 he
          rw [he] at h
          obtain ⟨v60, e_v60, h⟩ := letv_e h
          refine V.iinc (v := v60) (lv' := [(3, .int v60), (0, rf Z 47), (1, .int a1), (2, .int y35_2)]) d_Ma_nextAtNoon_60 3 rfl (by rw [e_v60]; rfl) (by decide) rfl ?_
          refine V.goto (tgt := 4) d_Ma_nextAtNoon_63 (by decide) ?_
          exact V.pick [1, 2, 3, 0] rfl (ih _ _ _ h hg)
        replace h := h1
        obtain ⟨s35b, h1, h⟩ := bnd1_e h
        have J35b_60 : s35b = 0 → V (mkB Z) Y m_Ma_nextAtNoon 2 (QP (mkB Z) Y nC 0 0 post) 0 0 nC σ 60 [(0, rf Z 47), (1, .int a1), (2, .int x2), (3, .int x3)] [] := by
          intro he
          rw [he] at h
          replace h := ite_t rfl h
          exact V.pick [0, 1, 2, 3] rfl (J35_60 _ (Option.some.inj h).symm)
        have J35b_58 : s35b = 1 → V (mkB Z) Y m_Ma_nextAtNoon 2 (QP (mkB Z) Y nC 0 0 post) 0 0 nC σ 58 [(0, rf Z 47), (1, .int a1), (3, .int x3)] [] := by
          intro he
          rw [he] at h
          replace h := ite_f (by decide) h
          refine V.iload_n d_Ma_nextAtNoon_58 rfl 2 rfl ?_
          refine V.istore_n (lv' := [(2, .int x3), (0, rf Z 47), (1, .int a1), (3, .int x3)]) d_Ma_nextAtNoon_59 rfl (by decide) rfl ?_
          exact V.pick [1, 2, 0, 3] rfl (J35_60 _ (Option.some.inj h).symm)
        replace h := h1
        refine V.if_eq (tgt := 60) d_Ma_nextAtNoon_35 (by decide) (fun hc35 => ?_) (fun hc35 => ?_)
        · replace h := ite_t hc35 h
          exact V.pick [1, 2, 3, 4] rfl (J35b_60 (Option.some.inj h).symm)
        · replace h := ite_f hc35 h
          refine V.iload_n d_Ma_nextAtNoon_38 rfl 3 rfl ?_
          refine V.iconst (v := (-1)) d_Ma_nextAtNoon_39 (by decide) ?_
          refine V.icmp_eq (tgt := 58) d_Ma_nextAtNoon_40 (by decide) (fun hc40 => ?_) (fun hc40 => ?_)
          · replace h := ite_t hc40 h
            exact V.pick [1, 2, 4] rfl (J35b_58 (Option.some.inj h).symm)
          · replace h := ite_f hc40 h
            refine V.aload_n d_Ma_nextAtNoon_43 rfl 1 rfl ?_
            refine V.getR (r := 55) ok_Ma fl_Ma_38 (by decide) (by decide) ly_47 rfl d_Ma_nextAtNoon_44 ?_
            refine V.iload_n d_Ma_nextAtNoon_47 rfl 4 rfl ?_
            obtain ⟨gq, h⟩ := grd_e h
            refine V.ra (by decide) ly_55 (inb_e gq) rfl d_Ma_nextAtNoon_48 ?_
            refine V.aload_n d_Ma_nextAtNoon_49 rfl 1 rfl ?_
            refine V.getR (r := 55) ok_Ma fl_Ma_38 (by decide) (by decide) ly_47 rfl d_Ma_nextAtNoon_50 ?_
            refine V.iload_n d_Ma_nextAtNoon_53 rfl 3 rfl ?_
            obtain ⟨gq, h⟩ := grd_e h
            refine V.ra (by decide) ly_55 (inb_e gq) rfl d_Ma_nextAtNoon_54 ?_
            refine V.icmp_ge (tgt := 60) d_Ma_nextAtNoon_55 (by decide) (fun hc55 => ?_) (fun hc55 => ?_)
            · replace h := ite_t hc55 h
              exact V.pick [1, 2, 3, 4] rfl (J35b_60 (Option.some.inj h).symm)
            · replace h := ite_f hc55 h
              exact V.pick [1, 2, 4] rfl (J35b_58 (Option.some.inj h).symm)
      replace h := h1
      obtain ⟨s15b, h1, h⟩ := bnd1_e h
      have J15b_30 : s15b = 0 → V (mkB Z) Y m_Ma_nextAtNoon 2 (QP (mkB Z) Y nC 0 0 post) 0 0 nC σ 30 [(0, rf Z 47), (1, .int a1), (2, .int x2), (3, .int x3)] [] := by
        intro he
        rw [he] at h
        replace h := ite_t rfl h
        refine V.iconst (v := 0) d_Ma_nextAtNoon_30 (by decide) ?_
        exact V.pick [0, 1, 2, 3] rfl (J15_31 _ (Option.some.inj h).symm)
      have J15b_26 : s15b = 1 → V (mkB Z) Y m_Ma_nextAtNoon 2 (QP (mkB Z) Y nC 0 0 post) 0 0 nC σ 26 [(0, rf Z 47), (1, .int a1), (2, .int x2), (3, .int x3)] [] := by
        intro he
        rw [he] at h
        replace h := ite_f (by decide) h
        refine V.iconst (v := 1) d_Ma_nextAtNoon_26 (by decide) ?_
        refine V.goto (tgt := 31) d_Ma_nextAtNoon_27 (by decide) ?_
        exact V.pick [0, 1, 2, 3] rfl (J15_31 _ (Option.some.inj h).symm)
      replace h := h1
      refine V.if_eq (tgt := 30) d_Ma_nextAtNoon_15 (by decide) (fun hc15 => ?_) (fun hc15 => ?_)
      · replace h := ite_t hc15 h
        exact V.pick [0, 1, 2, 3] rfl (J15b_30 (Option.some.inj h).symm)
      · replace h := ite_f hc15 h
        refine V.iload_n d_Ma_nextAtNoon_18 rfl 1 rfl ?_
        refine V.iload_n d_Ma_nextAtNoon_19 rfl 3 rfl ?_
        refine V.ishr d_Ma_nextAtNoon_20 ?_
        refine V.iconst (v := 1) d_Ma_nextAtNoon_21 (by decide) ?_
        refine V.iand d_Ma_nextAtNoon_22 ?_
        refine V.if_ne (tgt := 30) d_Ma_nextAtNoon_23 (by decide) (fun hc23 => ?_) (fun hc23 => ?_)
        · replace h := ite_f hc23 h
          exact V.pick [0, 1, 2, 3] rfl (J15b_30 (Option.some.inj h).symm)
        · replace h := ite_t hc23 h
          exact V.pick [0, 1, 2, 3] rfl (J15b_26 (Option.some.inj h).symm)
def f_Ma_nextAtNoon (N : Nat) (σ : Mem) (a1 : Int32) : Option (Int32) :=
  L_Ma_nextAtNoon_l4 N a1 σ N (-1) 0
set_option maxHeartbeats 4000000 in
set_option maxRecDepth 20000 in
theorem c_Ma_nextAtNoon (Z : ZX) {N : Nat} {σ : Mem} {a1 : Int32} {r : Int32} (h : f_Ma_nextAtNoon N σ a1 = some r) : CI Z 2 m_Ma_nextAtNoon [rf Z 47, .int a1] σ r σ := by
  refine Ct.of (by decide +kernel) (Nat.le_of_ble_eq_true rfl) (fun Y => ?_)
  show V (mkB Z) Y m_Ma_nextAtNoon 2 (QP (mkB Z) Y nC 0 0 (fun v t => v = some (.int r) ∧ t = σ)) 0 0 nC σ 0 [(0, rf Z 47), (1, .int a1)] []
  unfold f_Ma_nextAtNoon at h
  refine V.iconst (v := (-1)) d_Ma_nextAtNoon_0 (by decide) ?_
  refine V.istore_n (lv' := [(2, .int (-1)), (0, rf Z 47), (1, .int a1)]) d_Ma_nextAtNoon_1 rfl (by decide) rfl ?_
  refine V.iconst (v := 0) d_Ma_nextAtNoon_2 (by decide) ?_
  refine V.istore_n (lv' := [(3, .int 0), (2, .int (-1)), (0, rf Z 47), (1, .int a1)]) d_Ma_nextAtNoon_3 rfl (by decide) rfl ?_
  refine V.pick [2, 3, 1, 0] rfl (cL_Ma_nextAtNoon_l4 Z (Good := fun z => z = _) (fun r4v he => ?_) N _ _ _ h rfl)
  · cases he
    exact ⟨rfl, rfl⟩
abbrev m_Ma_noonsOf : MI := (⟨"ShadeTown$Market", "noonsOf", "(III)I"⟩, prog_6_method_12_code, 9, (Option.some Jvm.ClassFile.FieldType.int))
theorem d_Ma_noonsOf_0 : decode prog_6_method_12_code 0 = .ok (.aload_n 0, 1) := by decide +kernel
theorem d_Ma_noonsOf_1 : decode prog_6_method_12_code 1 = .ok (.getfield 38, 3) := by decide +kernel
theorem d_Ma_noonsOf_4 : decode prog_6_method_12_code 4 = .ok (.iconst 0, 1) := by decide +kernel
theorem d_Ma_noonsOf_5 : decode prog_6_method_12_code 5 = .ok (.invokestatic 98, 3) := by decide +kernel
theorem lk_Ma_98 : Cond.methodLink "ShadeTown$Market" 98 ⟨"java/util/Arrays", "fill", "([II)V"⟩ ∈ tblG := atG 1227 (by decide +kernel) rfl
theorem d_Ma_noonsOf_8 : decode prog_6_method_12_code 8 = .ok (.bipush 8, 2) := by decide +kernel
theorem d_Ma_noonsOf_10 : decode prog_6_method_12_code 10 = .ok (.iload_n 3, 1) := by decide +kernel
theorem d_Ma_noonsOf_11 : decode prog_6_method_12_code 11 = .ok (.invokestatic 101, 3) := by decide +kernel
theorem lk_Ma_101 : Cond.methodLink "ShadeTown$Market" 101 ⟨"java/lang/Math", "min", "(II)I"⟩ ∈ tblG := atG 1228 (by decide +kernel) rfl
theorem d_Ma_noonsOf_14 : decode prog_6_method_12_code 14 = .ok (.istore 4, 2) := by decide +kernel
theorem d_Ma_noonsOf_16 : decode prog_6_method_12_code 16 = .ok (.iconst 0, 1) := by decide +kernel
theorem d_Ma_noonsOf_17 : decode prog_6_method_12_code 17 = .ok (.istore 5, 2) := by decide +kernel
theorem d_Ma_noonsOf_19 : decode prog_6_method_12_code 19 = .ok (.iload 5, 2) := by decide +kernel
theorem d_Ma_noonsOf_21 : decode prog_6_method_12_code 21 = .ok (.iload_n 2, 1) := by decide +kernel
theorem d_Ma_noonsOf_25 : decode prog_6_method_12_code 25 = .ok (.iconst 0, 1) := by decide +kernel
theorem d_Ma_noonsOf_26 : decode prog_6_method_12_code 26 = .ok (.istore 6, 2) := by decide +kernel
theorem d_Ma_noonsOf_28 : decode prog_6_method_12_code 28 = .ok (.iconst 0, 1) := by decide +kernel
theorem d_Ma_noonsOf_29 : decode prog_6_method_12_code 29 = .ok (.istore 7, 2) := by decide +kernel
theorem d_Ma_noonsOf_31 : decode prog_6_method_12_code 31 = .ok (.iload 7, 2) := by decide +kernel
theorem d_Ma_noonsOf_33 : decode prog_6_method_12_code 33 = .ok (.iload 4, 2) := by decide +kernel
theorem d_Ma_noonsOf_38 : decode prog_6_method_12_code 38 = .ok (.aload_n 0, 1) := by decide +kernel
theorem d_Ma_noonsOf_39 : decode prog_6_method_12_code 39 = .ok (.iload 6, 2) := by decide +kernel
theorem d_Ma_noonsOf_41 : decode prog_6_method_12_code 41 = .ok (.invokevirtual 105, 3) := by decide +kernel
theorem k_Ma_nextAtNoon : MOk m_Ma_nextAtNoon 1 ∧ IOk m_Ma_nextAtNoon := ⟨⟨atG 1232 (by decide +kernel) rfl, atG 119 (by decide +kernel) rfl, ⟨by decide, by decide⟩, by decide +kernel, by decide⟩, atG 1231 (by decide +kernel) rfl, atG 38 (by decide +kernel) rfl⟩
theorem lk_Ma_105 : Cond.methodLink "ShadeTown$Market" 105 ⟨"ShadeTown$Market", "nextAtNoon", "(I)I"⟩ ∈ tblG := atG 1229 (by decide +kernel) rfl
theorem d_Ma_noonsOf_44 : decode prog_6_method_12_code 44 = .ok (.istore 8, 2) := by decide +kernel
theorem d_Ma_noonsOf_46 : decode prog_6_method_12_code 46 = .ok (.iload 8, 2) := by decide +kernel
theorem d_Ma_noonsOf_48 : decode prog_6_method_12_code 48 = .ok (.iconst (-1), 1) := by decide +kernel
theorem d_Ma_noonsOf_52 : decode prog_6_method_12_code 52 = .ok (.aload_n 0, 1) := by decide +kernel
theorem d_Ma_noonsOf_53 : decode prog_6_method_12_code 53 = .ok (.getfield 38, 3) := by decide +kernel
theorem d_Ma_noonsOf_56 : decode prog_6_method_12_code 56 = .ok (.iload 8, 2) := by decide +kernel
theorem d_Ma_noonsOf_58 : decode prog_6_method_12_code 58 = .ok (.dup2, 1) := by decide +kernel
theorem d_Ma_noonsOf_59 : decode prog_6_method_12_code 59 = .ok (.iaload, 1) := by decide +kernel
theorem d_Ma_noonsOf_60 : decode prog_6_method_12_code 60 = .ok (.iconst 1, 1) := by decide +kernel
theorem d_Ma_noonsOf_61 : decode prog_6_method_12_code 61 = .ok (.iadd, 1) := by decide +kernel
theorem d_Ma_noonsOf_62 : decode prog_6_method_12_code 62 = .ok (.iastore, 1) := by decide +kernel
theorem d_Ma_noonsOf_63 : decode prog_6_method_12_code 63 = .ok (.iload 6, 2) := by decide +kernel
theorem d_Ma_noonsOf_65 : decode prog_6_method_12_code 65 = .ok (.iconst 1, 1) := by decide +kernel
theorem d_Ma_noonsOf_66 : decode prog_6_method_12_code 66 = .ok (.iload 8, 2) := by decide +kernel
theorem d_Ma_noonsOf_68 : decode prog_6_method_12_code 68 = .ok (.ishl, 1) := by decide +kernel
theorem d_Ma_noonsOf_69 : decode prog_6_method_12_code 69 = .ok (.ior, 1) := by decide +kernel
theorem d_Ma_noonsOf_70 : decode prog_6_method_12_code 70 = .ok (.istore 6, 2) := by decide +kernel
theorem d_Ma_noonsOf_49 : decode prog_6_method_12_code 49 = .ok (.if_icmp .eq 23, 3) := by decide +kernel
theorem d_Ma_noonsOf_72 : decode prog_6_method_12_code 72 = .ok (.iinc 7 1, 3) := by decide +kernel
theorem d_Ma_noonsOf_75 : decode prog_6_method_12_code 75 = .ok (.goto (-44), 3) := by decide +kernel
theorem d_Ma_noonsOf_35 : decode prog_6_method_12_code 35 = .ok (.if_icmp .ge 43, 3) := by decide +kernel
theorem d_Ma_noonsOf_78 : decode prog_6_method_12_code 78 = .ok (.iinc 5 1, 3) := by decide +kernel
theorem d_Ma_noonsOf_81 : decode prog_6_method_12_code 81 = .ok (.goto (-62), 3) := by decide +kernel
theorem d_Ma_noonsOf_22 : decode prog_6_method_12_code 22 = .ok (.if_icmp .ge 62, 3) := by decide +kernel
theorem d_Ma_noonsOf_84 : decode prog_6_method_12_code 84 = .ok (.aload_n 0, 1) := by decide +kernel
theorem d_Ma_noonsOf_85 : decode prog_6_method_12_code 85 = .ok (.iload_n 1, 1) := by decide +kernel
theorem d_Ma_noonsOf_86 : decode prog_6_method_12_code 86 = .ok (.invokevirtual 48, 3) := by decide +kernel
theorem d_Ma_noonsOf_101 : decode prog_6_method_12_code 101 = .ok (.iconst (-1), 1) := by decide +kernel
theorem d_Ma_noonsOf_102 : decode prog_6_method_12_code 102 = .ok (.ireturn, 1) := by decide +kernel
theorem d_Ma_noonsOf_92 : decode prog_6_method_12_code 92 = .ok (.aload_n 0, 1) := by decide +kernel
theorem d_Ma_noonsOf_93 : decode prog_6_method_12_code 93 = .ok (.getfield 38, 3) := by decide +kernel
theorem d_Ma_noonsOf_96 : decode prog_6_method_12_code 96 = .ok (.iload_n 1, 1) := by decide +kernel
theorem d_Ma_noonsOf_97 : decode prog_6_method_12_code 97 = .ok (.iaload, 1) := by decide +kernel
theorem d_Ma_noonsOf_98 : decode prog_6_method_12_code 98 = .ok (.goto 4, 3) := by decide +kernel
theorem d_Ma_noonsOf_89 : decode prog_6_method_12_code 89 = .ok (.ifCond .eq 12, 3) := by decide +kernel
def B_Ma_noonsOf_l31 (N : Nat) (a1 : Int32) (a2 : Int32) (a4 : Int32) (a5 : Int32) (rec : Int32 → Int32 → Mem → Option (Mem)) (x6 : Int32) (x7 : Int32) (σ : Mem) : Option (Mem) :=
  if a4 ≤ x7 then
    (some σ)
  else
    (bnd1 (f_Ma_nextAtNoon N σ x6) fun r41 =>
    bnd1 ((
      if r41 = (-1) then
        (some (x6, σ))
      else
        (grd (inb r41 8) <|
        grd (inb r41 8) <|
        letv (sI σ 55 (r41.toNatClampNeg) ((mI σ 55 (r41.toNatClampNeg)) + 1)) fun σ62 =>
        letv (x6 ||| (1 <<< (r41 &&& 31))) fun v70 =>
        some (v70, σ62))) : Option (Int32 × Mem)) fun s49 =>
    q2 s49 fun y49_6 σ49_ =>
    letv (x7 + 1) fun v72 =>
    rec y49_6 v72 σ49_)
def L_Ma_noonsOf_l31 (N : Nat) (a1 : Int32) (a2 : Int32) (a4 : Int32) (a5 : Int32) : Nat → Int32 → Int32 → Mem → Option (Mem)
  | 0, _, _, _ => none
  | k + 1, x6, x7, σ => B_Ma_noonsOf_l31 N a1 a2 a4 a5 (L_Ma_noonsOf_l31 N a1 a2 a4 a5 k) x6 x7 σ
set_option maxHeartbeats 4000000 in
set_option maxRecDepth 20000 in
theorem cL_Ma_noonsOf_l31 (Z : ZX) {Y : YX} {Q : State → Prop} {N : Nat} {a1 : Int32} {a2 : Int32} {a4 : Int32} {a5 : Int32} {Good : Mem → Prop} (hE : ∀ (σe : Mem), Good σe → V (mkB Z) Y m_Ma_noonsOf 3 Q 0 0 nC σe 78 [(0, rf Z 47), (1, .int a1), (2, .int a2), (4, .int a4), (5, .int a5)] []) : ∀ (k : Nat) (x6 : Int32) (x7 : Int32) (σ : Mem) (res : Mem), L_Ma_noonsOf_l31 N a1 a2 a4 a5 k x6 x7 σ = some res → Good res → V (mkB Z) Y m_Ma_noonsOf 3 Q 0 0 nC σ 31 [(0, rf Z 47), (1, .int a1), (2, .int a2), (4, .int a4), (5, .int a5), (6, .int x6), (7, .int x7)] [] := by
  intro k
  induction k with
  | zero => intro x6 x7 σ res h; cases h
  | succ k ih =>
    intro x6 x7 σ res h hg
    replace h : B_Ma_noonsOf_l31 N a1 a2 a4 a5 (L_Ma_noonsOf_l31 N a1 a2 a4 a5 k) x6 x7 σ = some res := h
    unfold B_Ma_noonsOf_l31 at h
    refine V.iload d_Ma_noonsOf_31 6 rfl ?_
    refine V.iload d_Ma_noonsOf_33 3 rfl ?_
    refine V.icmp_ge (tgt := 78) d_Ma_noonsOf_35 (by decide) (fun hc35 => ?_) (fun hc35 => ?_)
    · replace h := ite_t hc35 h
      cases h
      exact V.pick [0, 1, 2, 3, 4] rfl (hE _ hg)
    · replace h := ite_f hc35 h
      refine V.aload_n d_Ma_noonsOf_38 rfl 0 rfl ?_
      refine V.iload d_Ma_noonsOf_39 5 rfl ?_
      obtain ⟨r41, h1, h⟩ := bnd1_e h
      refine V.vI (as := [.int x6]) (st := []) (c_Ma_nextAtNoon Z h1) k_Ma_nextAtNoon lk_Ma_105 (by decide) rfl (by decide) ly_47 ok_Ma.1 rfl (Nat.le_of_ble_eq_true rfl) d_Ma_noonsOf_41 ?_
      refine V.istore (lv' := [(8, .int r41), (0, rf Z 47), (1, .int a1), (2, .int a2), (4, .int a4), (5, .int a5), (6, .int x6), (7, .int x7)]) d_Ma_noonsOf_44 (by decide) rfl ?_
      refine V.iload d_Ma_noonsOf_46 0 rfl ?_
      refine V.iconst (v := (-1)) d_Ma_noonsOf_48 (by decide) ?_
      obtain ⟨s49, h1, h⟩ := bnd1_e h
      have J49_72 : ∀ (y49_6 : Int32) (σ49_ : Mem), s49 = (y49_6, σ49_) → V (mkB Z) Y m_Ma_noonsOf 3 Q 0 0 nC σ49_ 72 [(0, rf Z 47), (1, .int a1), (2, .int a2), (4, .int a4), (5, .int a5), (6, .int y49_6), (7, .int x7)] [] := by
        intro y49_6 σ49_ he
        rw [he] at h
        replace h := q2_e h
        obtain ⟨v72, e_v72, h⟩ := letv_e h
        refine V.iinc (v := v72) (lv' := [(7, .int v72), (0, rf Z 47), (1, .int a1), (2, .int a2), (4, .int a4), (5, .int a5), (6, .int y49_6)]) d_Ma_noonsOf_72 6 rfl (by rw [e_v72]; rfl) (by decide) rfl ?_
        refine V.goto (tgt := 31) d_Ma_noonsOf_75 (by decide) ?_
        exact V.pick [1, 2, 3, 4, 5, 6, 0] rfl (ih _ _ _ _ h hg)
      replace h := h1
      refine V.icmp_eq (tgt := 72) d_Ma_noonsOf_49 (by decide) (fun hc49 => ?_) (fun hc49 => ?_)
      · replace h := ite_t hc49 h
        exact V.pick [1, 2, 3, 4, 5, 6, 7] rfl (J49_72 _ _ (Option.some.inj h).symm)
      · replace h := ite_f hc49 h
        refine V.aload_n d_Ma_noonsOf_52 rfl 1 rfl ?_
        refine V.getR (r := 55) ok_Ma fl_Ma_38 (by decide) (by decide) ly_47 rfl d_Ma_noonsOf_53 ?_
        refine V.iload d_Ma_noonsOf_56 0 rfl ?_
        refine V.dup2 d_Ma_noonsOf_58 rfl rfl ?_
        obtain ⟨gq, h⟩ := grd_e h
        refine V.ra (by decide) ly_55 (inb_e gq) rfl d_Ma_noonsOf_59 ?_
        refine V.iconst (v := 1) d_Ma_noonsOf_60 (by decide) ?_
        refine V.iadd d_Ma_noonsOf_61 ?_
        obtain ⟨gq, h⟩ := grd_e h
        obtain ⟨σ62, e_σ62, h⟩ := letv_e h
        refine V.wa (by decide) ly_55 (inb_e gq) rfl d_Ma_noonsOf_62 e_σ62 ?_
        refine V.iload d_Ma_noonsOf_63 6 rfl ?_
        refine V.iconst (v := 1) d_Ma_noonsOf_65 (by decide) ?_
        refine V.iload d_Ma_noonsOf_66 0 rfl ?_
        refine V.ishl d_Ma_noonsOf_68 ?_
        refine V.ior d_Ma_noonsOf_69 ?_
        obtain ⟨v70, e_v70, h⟩ := letv_e h
        refine V.topI e_v70 ?_
        refine V.istore (lv' := [(6, .int v70), (8, .int r41), (0, rf Z 47), (1, .int a1), (2, .int a2), (4, .int a4), (5, .int a5), (7, .int x7)]) d_Ma_noonsOf_70 (by decide) rfl ?_
        exact V.pick [2, 3, 4, 5, 6, 0, 7] rfl (J49_72 _ _ (Option.some.inj h).symm)
def B_Ma_noonsOf_l19 (N : Nat) (a1 : Int32) (a2 : Int32) (a4 : Int32) (rec : Int32 → Mem → Option (Mem)) (x5 : Int32) (σ : Mem) : Option (Mem) :=
  if a2 ≤ x5 then
    (some σ)
  else
    (bnd1 (L_Ma_noonsOf_l31 N a1 a2 a4 x5 N 0 0 σ) fun σ31_ =>
    letv (x5 + 1) fun v78 =>
    rec v78 σ31_)
def L_Ma_noonsOf_l19 (N : Nat) (a1 : Int32) (a2 : Int32) (a4 : Int32) : Nat → Int32 → Mem → Option (Mem)
  | 0, _, _ => none
  | k + 1, x5, σ => B_Ma_noonsOf_l19 N a1 a2 a4 (L_Ma_noonsOf_l19 N a1 a2 a4 k) x5 σ
set_option maxHeartbeats 4000000 in
set_option maxRecDepth 20000 in
theorem cL_Ma_noonsOf_l19 (Z : ZX) {Y : YX} {Q : State → Prop} {N : Nat} {a1 : Int32} {a2 : Int32} {a4 : Int32} {Good : Mem → Prop} (hE : ∀ (σe : Mem), Good σe → V (mkB Z) Y m_Ma_noonsOf 3 Q 0 0 nC σe 84 [(0, rf Z 47), (1, .int a1)] []) : ∀ (k : Nat) (x5 : Int32) (σ : Mem) (res : Mem), L_Ma_noonsOf_l19 N a1 a2 a4 k x5 σ = some res → Good res → V (mkB Z) Y m_Ma_noonsOf 3 Q 0 0 nC σ 19 [(0, rf Z 47), (1, .int a1), (2, .int a2), (4, .int a4), (5, .int x5)] [] := by
  intro k
  induction k with
  | zero => intro x5 σ res h; cases h
  | succ k ih =>
    intro x5 σ res h hg
    replace h : B_Ma_noonsOf_l19 N a1 a2 a4 (L_Ma_noonsOf_l19 N a1 a2 a4 k) x5 σ = some res := h
    unfold B_Ma_noonsOf_l19 at h
    refine V.iload d_Ma_noonsOf_19 4 rfl ?_
    refine V.iload_n d_Ma_noonsOf_21 rfl 2 rfl ?_
    refine V.icmp_ge (tgt := 84) d_Ma_noonsOf_22 (by decide) (fun hc22 => ?_) (fun hc22 => ?_)
    · replace h := ite_t hc22 h
      cases h
      exact V.pick [0, 1] rfl (hE _ hg)
    · replace h := ite_f hc22 h
      refine V.iconst (v := 0) d_Ma_noonsOf_25 (by decide) ?_
      refine V.istore (lv' := [(6, .int 0), (0, rf Z 47), (1, .int a1), (2, .int a2), (4, .int a4), (5, .int x5)]) d_Ma_noonsOf_26 (by decide) rfl ?_
      refine V.iconst (v := 0) d_Ma_noonsOf_28 (by decide) ?_
      refine V.istore (lv' := [(7, .int 0), (6, .int 0), (0, rf Z 47), (1, .int a1), (2, .int a2), (4, .int a4), (5, .int x5)]) d_Ma_noonsOf_29 (by decide) rfl ?_
      obtain ⟨x31_, h1, h⟩ := bnd1_e h
      refine V.pick [2, 3, 4, 5, 6, 1, 0] rfl (cL_Ma_noonsOf_l31 Z (Good := fun z => x31_ = z) (fun σ31_ he => ?_) N _ _ _ _ h1 rfl)
      · rw [he] at h
        obtain ⟨v78, e_v78, h⟩ := letv_e h
        refine V.iinc (v := v78) (lv' := [(5, .int v78), (0, rf Z 47), (1, .int a1), (2, .int a2), (4, .int a4)]) d_Ma_noonsOf_78 4 rfl (by rw [e_v78]; rfl) (by decide) rfl ?_
        refine V.goto (tgt := 19) d_Ma_noonsOf_81 (by decide) ?_
        exact V.pick [1, 2, 3, 4, 0] rfl (ih _ _ _ h hg)
def f_Ma_noonsOf (N : Nat) (σ : Mem) (a1 : Int32) (a2 : Int32) (a3 : Int32) : Option (Int32 × Mem) :=
  bnd1 (f_JA_fill_53178 N σ 55 8 0) fun σ5 =>
  bnd1 (f_JM_min_7cf53 8 a3) fun r11 =>
  bnd1 (L_Ma_noonsOf_l19 N a1 a2 r11 N 0 σ5) fun σ19_ =>
  bnd1 (f_Ma_isNumber a1) fun r86 =>
  if r86 = 0 then
    (some ((-1), σ19_))
  else
    (grd (inb a1 8) <|
    some (mI σ19_ 55 (a1.toNatClampNeg), σ19_))
set_option maxHeartbeats 4000000 in
set_option maxRecDepth 20000 in
theorem c_Ma_noonsOf (Z : ZX) {N : Nat} {σ : Mem} {a1 : Int32} {a2 : Int32} {a3 : Int32} {r : Int32} {σ' : Mem} (h : f_Ma_noonsOf N σ a1 a2 a3 = some (r, σ')) : CI Z 3 m_Ma_noonsOf [rf Z 47, .int a1, .int a2, .int a3] σ r σ' := by
  refine Ct.of (by decide +kernel) (Nat.le_of_ble_eq_true rfl) (fun Y => ?_)
  show V (mkB Z) Y m_Ma_noonsOf 3 (QP (mkB Z) Y nC 0 0 (fun v t => v = some (.int r) ∧ t = σ')) 0 0 nC σ 0 [(0, rf Z 47), (1, .int a1), (2, .int a2), (3, .int a3)] []
  unfold f_Ma_noonsOf at h
  refine V.aload_n d_Ma_noonsOf_0 rfl 0 rfl ?_
  refine V.getR (r := 55) ok_Ma fl_Ma_38 (by decide) (by decide) ly_47 rfl d_Ma_noonsOf_1 ?_
  refine V.iconst (v := 0) d_Ma_noonsOf_4 (by decide) ?_
  obtain ⟨σ5, h1, h⟩ := bnd1_e h
  refine V.sN (as := [rf Z 55, .int 0]) (st := []) (c_JA_fill_53178 Z (by decide) ly_55 h1) k_JA_fill_53178 lk_Ma_98 (by decide) rfl rfl (Nat.le_of_ble_eq_true rfl) d_Ma_noonsOf_5 ?_
  refine V.bipush (v := 8) d_Ma_noonsOf_8 (by decide) ?_
  refine V.iload_n d_Ma_noonsOf_10 rfl 3 rfl ?_
  obtain ⟨r11, h1, h⟩ := bnd1_e h
  refine V.sI (as := [.int 8, .int a3]) (st := []) (c_JM_min_7cf53 Z h1) k_JM_min_7cf53 lk_Ma_101 (by decide) rfl rfl (Nat.le_of_ble_eq_true rfl) d_Ma_noonsOf_11 ?_
  refine V.istore (lv' := [(4, .int r11), (0, rf Z 47), (1, .int a1), (2, .int a2), (3, .int a3)]) d_Ma_noonsOf_14 (by decide) rfl ?_
  refine V.iconst (v := 0) d_Ma_noonsOf_16 (by decide) ?_
  refine V.istore (lv' := [(5, .int 0), (4, .int r11), (0, rf Z 47), (1, .int a1), (2, .int a2), (3, .int a3)]) d_Ma_noonsOf_17 (by decide) rfl ?_
  obtain ⟨x19_, h1, h⟩ := bnd1_e h
  refine V.pick [2, 3, 4, 1, 0] rfl (cL_Ma_noonsOf_l19 Z (Good := fun z => x19_ = z) (fun σ19_ he => ?_) N _ _ _ h1 rfl)
  · rw [he] at h
    refine V.aload_n d_Ma_noonsOf_84 rfl 0 rfl ?_
    refine V.iload_n d_Ma_noonsOf_85 rfl 1 rfl ?_
    obtain ⟨r86, h1, h⟩ := bnd1_e h
    refine V.vI (as := [.int a1]) (st := []) (c_Ma_isNumber Z h1) k_Ma_isNumber lk_Ma_48 (by decide) rfl (by decide) ly_47 ok_Ma.1 rfl (Nat.le_of_ble_eq_true rfl) d_Ma_noonsOf_86 ?_
    refine V.if_eq (tgt := 101) d_Ma_noonsOf_89 (by decide) (fun hc89 => ?_) (fun hc89 => ?_)
    · replace h := ite_t hc89 h
      refine V.iconst (v := (-1)) d_Ma_noonsOf_101 (by decide) ?_
      cases h
      exact V.iret rfl d_Ma_noonsOf_102 ⟨rfl, rfl⟩
    · replace h := ite_f hc89 h
      refine V.aload_n d_Ma_noonsOf_92 rfl 0 rfl ?_
      refine V.getR (r := 55) ok_Ma fl_Ma_38 (by decide) (by decide) ly_47 rfl d_Ma_noonsOf_93 ?_
      refine V.iload_n d_Ma_noonsOf_96 rfl 1 rfl ?_
      obtain ⟨gq, h⟩ := grd_e h
      refine V.ra (by decide) ly_55 (inb_e gq) rfl d_Ma_noonsOf_97 ?_
      refine V.goto (tgt := 102) d_Ma_noonsOf_98 (by decide) ?_
      cases h
      exact V.iret rfl d_Ma_noonsOf_102 ⟨rfl, rfl⟩
abbrev m_Sh_noon : MI := (⟨"ShadeTown", "noon", "(II)I"⟩, prog_1_method_29_code, 3, (Option.some Jvm.ClassFile.FieldType.int))
theorem d_Sh_noon_0 : decode prog_1_method_29_code 0 = .ok (.iload_n 1, 1) := by decide +kernel
theorem d_Sh_noon_1 : decode prog_1_method_29_code 1 = .ok (.iconst 1, 1) := by decide +kernel
theorem d_Sh_noon_22 : decode prog_1_method_29_code 22 = .ok (.iconst (-1), 1) := by decide +kernel
theorem d_Sh_noon_23 : decode prog_1_method_29_code 23 = .ok (.ireturn, 1) := by decide +kernel
theorem d_Sh_noon_5 : decode prog_1_method_29_code 5 = .ok (.iload_n 1, 1) := by decide +kernel
theorem d_Sh_noon_6 : decode prog_1_method_29_code 6 = .ok (.bipush 60, 2) := by decide +kernel
theorem d_Sh_noon_11 : decode prog_1_method_29_code 11 = .ok (.aload_n 0, 1) := by decide +kernel
theorem d_Sh_noon_12 : decode prog_1_method_29_code 12 = .ok (.getfield 75, 3) := by decide +kernel
theorem d_Sh_noon_15 : decode prog_1_method_29_code 15 = .ok (.iload_n 2, 1) := by decide +kernel
theorem d_Sh_noon_16 : decode prog_1_method_29_code 16 = .ok (.invokevirtual 263, 3) := by decide +kernel
theorem d_Sh_noon_24 : decode prog_1_method_29_code 24 = .ok (.aload_n 0, 1) := by decide +kernel
theorem d_Sh_noon_25 : decode prog_1_method_29_code 25 = .ok (.getfield 75, 3) := by decide +kernel
theorem d_Sh_noon_28 : decode prog_1_method_29_code 28 = .ok (.iload_n 2, 1) := by decide +kernel
theorem d_Sh_noon_29 : decode prog_1_method_29_code 29 = .ok (.iload_n 1, 1) := by decide +kernel
theorem d_Sh_noon_30 : decode prog_1_method_29_code 30 = .ok (.aload_n 0, 1) := by decide +kernel
theorem d_Sh_noon_31 : decode prog_1_method_29_code 31 = .ok (.invokevirtual 181, 3) := by decide +kernel
theorem d_Sh_noon_34 : decode prog_1_method_29_code 34 = .ok (.bipush 12, 2) := by decide +kernel
theorem d_Sh_noon_36 : decode prog_1_method_29_code 36 = .ok (.invokevirtual 327, 3) := by decide +kernel
theorem k_Da_shadedSquares : MOk m_Da_shadedSquares 1 ∧ IOk m_Da_shadedSquares := ⟨⟨atG 1222 (by decide +kernel) rfl, atG 116 (by decide +kernel) rfl, ⟨by decide, by decide⟩, by decide +kernel, by decide⟩, atG 1220 (by decide +kernel) rfl, atG 1221 (by decide +kernel) rfl⟩
theorem lk_Sh_327 : Cond.methodLink "ShadeTown" 327 ⟨"ShadeTown$Day", "shadedSquares", "(I)I"⟩ ∈ tblG := atG 1219 (by decide +kernel) rfl
theorem d_Sh_noon_39 : decode prog_1_method_29_code 39 = .ok (.invokevirtual 330, 3) := by decide +kernel
theorem k_Ma_noonsOf : MOk m_Ma_noonsOf 3 ∧ IOk m_Ma_noonsOf := ⟨⟨atG 1226 (by decide +kernel) rfl, atG 119 (by decide +kernel) rfl, ⟨by decide, by decide⟩, by decide +kernel, by decide⟩, atG 1224 (by decide +kernel) rfl, atG 1225 (by decide +kernel) rfl⟩
theorem lk_Sh_330 : Cond.methodLink "ShadeTown" 330 ⟨"ShadeTown$Market", "noonsOf", "(III)I"⟩ ∈ tblG := atG 1223 (by decide +kernel) rfl
theorem d_Sh_noon_42 : decode prog_1_method_29_code 42 = .ok (.ireturn, 1) := by decide +kernel
theorem d_Sh_noon_19 : decode prog_1_method_29_code 19 = .ok (.ifCond .ne 5, 3) := by decide +kernel
theorem d_Sh_noon_8 : decode prog_1_method_29_code 8 = .ok (.if_icmp .gt 14, 3) := by decide +kernel
theorem d_Sh_noon_2 : decode prog_1_method_29_code 2 = .ok (.if_icmp .lt 20, 3) := by decide +kernel
def f_Sh_noon (N : Nat) (σ : Mem) (a1 : Int32) (a2 : Int32) : Option (Int32 × Mem) :=
  if a1 < 1 then
    (some ((-1), σ))
  else
    (if 60 < a1 then
      (some ((-1), σ))
    else
      (bnd1 (f_Ma_isTold σ a2) fun r16 =>
      if r16 = 0 then
        (some ((-1), σ))
      else
        (bnd1 (f_Sh_today N σ) fun σ31 =>
        bnd1 (f_Da_shadedSquares N σ31 12) fun r36 =>
        bnd2 (f_Ma_noonsOf N σ31 a2 a1 r36) fun r39 σ39 =>
        some (r39, σ39))))
set_option maxHeartbeats 4000000 in
set_option maxRecDepth 20000 in
theorem c_Sh_noon (Z : ZX) {N : Nat} {σ : Mem} {a1 : Int32} {a2 : Int32} {r : Int32} {σ' : Mem} (h : f_Sh_noon N σ a1 a2 = some (r, σ')) : CI Z 6 m_Sh_noon [rf Z 0, .int a1, .int a2] σ r σ' := by
  refine Ct.of (by decide +kernel) (Nat.le_of_ble_eq_true rfl) (fun Y => ?_)
  show V (mkB Z) Y m_Sh_noon 6 (QP (mkB Z) Y nC 0 0 (fun v t => v = some (.int r) ∧ t = σ')) 0 0 nC σ 0 [(0, rf Z 0), (1, .int a1), (2, .int a2)] []
  unfold f_Sh_noon at h
  refine V.iload_n d_Sh_noon_0 rfl 1 rfl ?_
  refine V.iconst (v := 1) d_Sh_noon_1 (by decide) ?_
  refine V.icmp_lt (tgt := 22) d_Sh_noon_2 (by decide) (fun hc2 => ?_) (fun hc2 => ?_)
  · replace h := ite_t hc2 h
    refine V.iconst (v := (-1)) d_Sh_noon_22 (by decide) ?_
    cases h
    exact V.iret rfl d_Sh_noon_23 ⟨rfl, rfl⟩
  · replace h := ite_f hc2 h
    refine V.iload_n d_Sh_noon_5 rfl 1 rfl ?_
    refine V.bipush (v := 60) d_Sh_noon_6 (by decide) ?_
    refine V.icmp_gt (tgt := 22) d_Sh_noon_8 (by decide) (fun hc8 => ?_) (fun hc8 => ?_)
    · replace h := ite_t hc8 h
      refine V.iconst (v := (-1)) d_Sh_noon_22 (by decide) ?_
      cases h
      exact V.iret rfl d_Sh_noon_23 ⟨rfl, rfl⟩
    · replace h := ite_f hc8 h
      refine V.aload_n d_Sh_noon_11 rfl 0 rfl ?_
      refine V.getR (r := 47) ok_Sh fl_Sh_75 (by decide) (by decide) ly_0 rfl d_Sh_noon_12 ?_
      refine V.iload_n d_Sh_noon_15 rfl 2 rfl ?_
      obtain ⟨r16, h1, h⟩ := bnd1_e h
      refine V.vI (as := [.int a2]) (st := []) (c_Ma_isTold Z h1) k_Ma_isTold lk_Sh_263 (by decide) rfl (by decide) ly_47 ok_Ma.1 rfl (Nat.le_of_ble_eq_true rfl) d_Sh_noon_16 ?_
      refine V.if_ne (tgt := 24) d_Sh_noon_19 (by decide) (fun hc19 => ?_) (fun hc19 => ?_)
      · replace h := ite_f hc19 h
        refine V.aload_n d_Sh_noon_24 rfl 0 rfl ?_
        refine V.getR (r := 47) ok_Sh fl_Sh_75 (by decide) (by decide) ly_0 rfl d_Sh_noon_25 ?_
        refine V.iload_n d_Sh_noon_28 rfl 2 rfl ?_
        refine V.iload_n d_Sh_noon_29 rfl 1 rfl ?_
        refine V.aload_n d_Sh_noon_30 rfl 0 rfl ?_
        obtain ⟨σ31, h1, h⟩ := bnd1_e h
        refine V.vA (as := []) (st := [.int a1, .int a2, rf Z 47]) (c_Sh_today Z h1) k_Sh_today lk_Sh_181 (by decide) rfl (by decide) ly_0 ok_Sh.1 rfl (Nat.le_of_ble_eq_true rfl) d_Sh_noon_31 ?_
        refine V.bipush (v := 12) d_Sh_noon_34 (by decide) ?_
        obtain ⟨r36, h1, h⟩ := bnd1_e h
        refine V.vI (as := [.int 12]) (st := [.int a1, .int a2, rf Z 47]) (c_Da_shadedSquares Z h1) k_Da_shadedSquares lk_Sh_327 (by decide) rfl (by decide) ly_33 ok_Da.1 rfl (Nat.le_of_ble_eq_true rfl) d_Sh_noon_36 ?_
        obtain ⟨r39, σ39, h1, h⟩ := bnd2_e h
        refine V.vI (as := [.int a2, .int a1, .int r36]) (st := []) (c_Ma_noonsOf Z h1) k_Ma_noonsOf lk_Sh_330 (by decide) rfl (by decide) ly_47 ok_Ma.1 rfl (Nat.le_of_ble_eq_true rfl) d_Sh_noon_39 ?_
        cases h
        exact V.iret rfl d_Sh_noon_42 ⟨rfl, rfl⟩
      · replace h := ite_t hc19 h
        refine V.iconst (v := (-1)) d_Sh_noon_22 (by decide) ?_
        cases h
        exact V.iret rfl d_Sh_noon_23 ⟨rfl, rfl⟩
abbrev m_La_askTree : MI := (⟨"ShadeTown$Law", "askTree", "(III)V"⟩, prog_4_method_14_code, 4, (Option.none : Option Jvm.ClassFile.FieldType))
theorem d_La_askTree_0 : decode prog_4_method_14_code 0 = .ok (.aload_n 0, 1) := by decide +kernel
theorem d_La_askTree_1 : decode prog_4_method_14_code 1 = .ok (.iconst 0, 1) := by decide +kernel
theorem d_La_askTree_2 : decode prog_4_method_14_code 2 = .ok (.iload_n 1, 1) := by decide +kernel
theorem d_La_askTree_3 : decode prog_4_method_14_code 3 = .ok (.invokevirtual 53, 3) := by decide +kernel
theorem lk_La_53 : Cond.methodLink "ShadeTown$Law" 53 ⟨"ShadeTown$Law", "askHour", "(II)V"⟩ ∈ tblG := atG 1246 (by decide +kernel) rfl
theorem d_La_askTree_6 : decode prog_4_method_14_code 6 = .ok (.aload_n 0, 1) := by decide +kernel
theorem d_La_askTree_7 : decode prog_4_method_14_code 7 = .ok (.getfield 31, 3) := by decide +kernel
theorem d_La_askTree_10 : decode prog_4_method_14_code 10 = .ok (.bipush 7, 2) := by decide +kernel
theorem d_La_askTree_12 : decode prog_4_method_14_code 12 = .ok (.iload_n 2, 1) := by decide +kernel
theorem d_La_askTree_13 : decode prog_4_method_14_code 13 = .ok (.iastore, 1) := by decide +kernel
theorem d_La_askTree_14 : decode prog_4_method_14_code 14 = .ok (.aload_n 0, 1) := by decide +kernel
theorem d_La_askTree_15 : decode prog_4_method_14_code 15 = .ok (.getfield 31, 3) := by decide +kernel
theorem d_La_askTree_18 : decode prog_4_method_14_code 18 = .ok (.bipush 8, 2) := by decide +kernel
theorem d_La_askTree_20 : decode prog_4_method_14_code 20 = .ok (.iload_n 3, 1) := by decide +kernel
theorem d_La_askTree_21 : decode prog_4_method_14_code 21 = .ok (.iastore, 1) := by decide +kernel
theorem d_La_askTree_22 : decode prog_4_method_14_code 22 = .ok (.return_, 1) := by decide +kernel
def f_La_askTree (N : Nat) (σ : Mem) (a1 : Int32) (a2 : Int32) (a3 : Int32) : Option (Mem) :=
  bnd1 (f_La_askHour N σ 0 a1) fun σ3 =>
  letv (sI σ3 8 7 a2) fun σ13 =>
  letv (sI σ13 8 8 a3) fun σ21 =>
  some σ21
set_option maxHeartbeats 4000000 in
set_option maxRecDepth 20000 in
theorem c_La_askTree (Z : ZX) {N : Nat} {σ : Mem} {a1 : Int32} {a2 : Int32} {a3 : Int32} {σ' : Mem} (h : f_La_askTree N σ a1 a2 a3 = some σ') : CN Z 2 m_La_askTree [rf Z 3, .int a1, .int a2, .int a3] σ σ' := by
  refine Ct.of (by decide +kernel) (Nat.le_of_ble_eq_true rfl) (fun Y => ?_)
  show V (mkB Z) Y m_La_askTree 2 (QP (mkB Z) Y nC 0 0 (fun v t => v = none ∧ t = σ')) 0 0 nC σ 0 [(0, rf Z 3), (1, .int a1), (2, .int a2), (3, .int a3)] []
  unfold f_La_askTree at h
  refine V.aload_n d_La_askTree_0 rfl 0 rfl ?_
  refine V.iconst (v := 0) d_La_askTree_1 (by decide) ?_
  refine V.iload_n d_La_askTree_2 rfl 1 rfl ?_
  obtain ⟨σ3, h1, h⟩ := bnd1_e h
  refine V.vN (as := [.int 0, .int a1]) (st := []) (c_La_askHour Z h1) k_La_askHour lk_La_53 (by decide) rfl (by decide) ly_3 ok_La.1 rfl (Nat.le_of_ble_eq_true rfl) d_La_askTree_3 ?_
  refine V.aload_n d_La_askTree_6 rfl 0 rfl ?_
  refine V.getR (r := 8) ok_La fl_La_31 (by decide) (by decide) ly_3 rfl d_La_askTree_7 ?_
  refine V.bipush (v := 7) d_La_askTree_10 (by decide) ?_
  refine V.iload_n d_La_askTree_12 rfl 2 rfl ?_
  obtain ⟨σ13, e_σ13, h⟩ := letv_e h
  refine V.wa (j := 7) (by decide) ly_8 (inb_e (by decide)) (by decide) d_La_askTree_13 e_σ13 ?_
  refine V.aload_n d_La_askTree_14 rfl 0 rfl ?_
  refine V.getR (r := 8) ok_La fl_La_31 (by decide) (by decide) ly_3 rfl d_La_askTree_15 ?_
  refine V.bipush (v := 8) d_La_askTree_18 (by decide) ?_
  refine V.iload_n d_La_askTree_20 rfl 3 rfl ?_
  obtain ⟨σ21, e_σ21, h⟩ := letv_e h
  refine V.wa (j := 8) (by decide) ly_8 (inb_e (by decide)) (by decide) d_La_askTree_21 e_σ21 ?_
  cases h
  exact V.vret rfl d_La_askTree_22 ⟨rfl, rfl⟩
abbrev m_Sh_growTrees : MI := (⟨"ShadeTown", "growTrees", "()I"⟩, prog_1_method_39_code, 4, (Option.some Jvm.ClassFile.FieldType.int))
theorem d_Sh_growTrees_0 : decode prog_1_method_39_code 0 = .ok (.iconst 0, 1) := by decide +kernel
theorem d_Sh_growTrees_1 : decode prog_1_method_39_code 1 = .ok (.istore_n 1, 1) := by decide +kernel
theorem d_Sh_growTrees_2 : decode prog_1_method_39_code 2 = .ok (.iconst 0, 1) := by decide +kernel
theorem d_Sh_growTrees_3 : decode prog_1_method_39_code 3 = .ok (.istore_n 2, 1) := by decide +kernel
theorem d_Sh_growTrees_4 : decode prog_1_method_39_code 4 = .ok (.iload_n 2, 1) := by decide +kernel
theorem d_Sh_growTrees_5 : decode prog_1_method_39_code 5 = .ok (.aload_n 0, 1) := by decide +kernel
theorem d_Sh_growTrees_6 : decode prog_1_method_39_code 6 = .ok (.getfield 38, 3) := by decide +kernel
theorem fl_Sh_363 : FL "ShadeTown" 363 T_To 6 := atG 236 (by decide +kernel) rfl
theorem d_Sh_growTrees_9 : decode prog_1_method_39_code 9 = .ok (.getfield 363, 3) := by decide +kernel
theorem d_Sh_growTrees_117 : decode prog_1_method_39_code 117 = .ok (.iload_n 1, 1) := by decide +kernel
theorem d_Sh_growTrees_118 : decode prog_1_method_39_code 118 = .ok (.ireturn, 1) := by decide +kernel
theorem d_Sh_growTrees_15 : decode prog_1_method_39_code 15 = .ok (.aload_n 0, 1) := by decide +kernel
theorem d_Sh_growTrees_16 : decode prog_1_method_39_code 16 = .ok (.getfield 38, 3) := by decide +kernel
theorem d_Sh_growTrees_19 : decode prog_1_method_39_code 19 = .ok (.iload_n 2, 1) := by decide +kernel
theorem d_Sh_growTrees_20 : decode prog_1_method_39_code 20 = .ok (.iconst 1, 1) := by decide +kernel
theorem d_Sh_growTrees_21 : decode prog_1_method_39_code 21 = .ok (.invokevirtual 149, 3) := by decide +kernel
theorem d_Sh_growTrees_27 : decode prog_1_method_39_code 27 = .ok (.aload_n 0, 1) := by decide +kernel
theorem d_Sh_growTrees_28 : decode prog_1_method_39_code 28 = .ok (.getfield 19, 3) := by decide +kernel
theorem d_Sh_growTrees_31 : decode prog_1_method_39_code 31 = .ok (.aload_n 0, 1) := by decide +kernel
theorem d_Sh_growTrees_32 : decode prog_1_method_39_code 32 = .ok (.getfield 38, 3) := by decide +kernel
theorem d_Sh_growTrees_35 : decode prog_1_method_39_code 35 = .ok (.getfield 159, 3) := by decide +kernel
theorem d_Sh_growTrees_38 : decode prog_1_method_39_code 38 = .ok (.aload_n 0, 1) := by decide +kernel
theorem d_Sh_growTrees_39 : decode prog_1_method_39_code 39 = .ok (.getfield 38, 3) := by decide +kernel
theorem d_Sh_growTrees_42 : decode prog_1_method_39_code 42 = .ok (.getfield 169, 3) := by decide +kernel
theorem d_Sh_growTrees_45 : decode prog_1_method_39_code 45 = .ok (.iload_n 2, 1) := by decide +kernel
theorem d_Sh_growTrees_46 : decode prog_1_method_39_code 46 = .ok (.iaload, 1) := by decide +kernel
theorem d_Sh_growTrees_47 : decode prog_1_method_39_code 47 = .ok (.aload_n 0, 1) := by decide +kernel
theorem d_Sh_growTrees_48 : decode prog_1_method_39_code 48 = .ok (.getfield 38, 3) := by decide +kernel
theorem d_Sh_growTrees_51 : decode prog_1_method_39_code 51 = .ok (.getfield 175, 3) := by decide +kernel
theorem d_Sh_growTrees_54 : decode prog_1_method_39_code 54 = .ok (.iload_n 2, 1) := by decide +kernel
theorem d_Sh_growTrees_55 : decode prog_1_method_39_code 55 = .ok (.iaload, 1) := by decide +kernel
theorem d_Sh_growTrees_56 : decode prog_1_method_39_code 56 = .ok (.invokevirtual 378, 3) := by decide +kernel
theorem k_La_askTree : MOk m_La_askTree 3 ∧ IOk m_La_askTree := ⟨⟨atG 1245 (by decide +kernel) rfl, atG 113 (by decide +kernel) rfl, ⟨by decide, by decide⟩, by decide +kernel, by decide⟩, atG 1243 (by decide +kernel) rfl, atG 1244 (by decide +kernel) rfl⟩
theorem lk_Sh_378 : Cond.methodLink "ShadeTown" 378 ⟨"ShadeTown$Law", "askTree", "(III)V"⟩ ∈ tblG := atG 1242 (by decide +kernel) rfl
theorem d_Sh_growTrees_59 : decode prog_1_method_39_code 59 = .ok (.bipush 99, 2) := by decide +kernel
theorem d_Sh_growTrees_61 : decode prog_1_method_39_code 61 = .ok (.aload_n 0, 1) := by decide +kernel
theorem d_Sh_growTrees_62 : decode prog_1_method_39_code 62 = .ok (.getfield 38, 3) := by decide +kernel
theorem d_Sh_growTrees_65 : decode prog_1_method_39_code 65 = .ok (.getfield 169, 3) := by decide +kernel
theorem d_Sh_growTrees_68 : decode prog_1_method_39_code 68 = .ok (.iload_n 2, 1) := by decide +kernel
theorem d_Sh_growTrees_69 : decode prog_1_method_39_code 69 = .ok (.iaload, 1) := by decide +kernel
theorem d_Sh_growTrees_70 : decode prog_1_method_39_code 70 = .ok (.aload_n 0, 1) := by decide +kernel
theorem d_Sh_growTrees_71 : decode prog_1_method_39_code 71 = .ok (.getfield 19, 3) := by decide +kernel
theorem d_Sh_growTrees_74 : decode prog_1_method_39_code 74 = .ok (.bipush 103, 2) := by decide +kernel
theorem d_Sh_growTrees_76 : decode prog_1_method_39_code 76 = .ok (.iconst 0, 1) := by decide +kernel
theorem d_Sh_growTrees_77 : decode prog_1_method_39_code 77 = .ok (.bipush 9, 2) := by decide +kernel
theorem d_Sh_growTrees_79 : decode prog_1_method_39_code 79 = .ok (.invokevirtual 381, 3) := by decide +kernel
theorem lk_Sh_381 : Cond.methodLink "ShadeTown" 381 ⟨"ShadeTown$Law", "valueOf", "(CII)I"⟩ ∈ tblG := atG 1247 (by decide +kernel) rfl
theorem d_Sh_growTrees_82 : decode prog_1_method_39_code 82 = .ok (.iadd, 1) := by decide +kernel
theorem d_Sh_growTrees_83 : decode prog_1_method_39_code 83 = .ok (.invokestatic 299, 3) := by decide +kernel
theorem d_Sh_growTrees_86 : decode prog_1_method_39_code 86 = .ok (.istore_n 3, 1) := by decide +kernel
theorem d_Sh_growTrees_87 : decode prog_1_method_39_code 87 = .ok (.iload_n 1, 1) := by decide +kernel
theorem d_Sh_growTrees_88 : decode prog_1_method_39_code 88 = .ok (.iload_n 3, 1) := by decide +kernel
theorem d_Sh_growTrees_89 : decode prog_1_method_39_code 89 = .ok (.aload_n 0, 1) := by decide +kernel
theorem d_Sh_growTrees_90 : decode prog_1_method_39_code 90 = .ok (.getfield 38, 3) := by decide +kernel
theorem d_Sh_growTrees_93 : decode prog_1_method_39_code 93 = .ok (.getfield 169, 3) := by decide +kernel
theorem d_Sh_growTrees_96 : decode prog_1_method_39_code 96 = .ok (.iload_n 2, 1) := by decide +kernel
theorem d_Sh_growTrees_97 : decode prog_1_method_39_code 97 = .ok (.iaload, 1) := by decide +kernel
theorem d_Sh_growTrees_98 : decode prog_1_method_39_code 98 = .ok (.isub, 1) := by decide +kernel
theorem d_Sh_growTrees_99 : decode prog_1_method_39_code 99 = .ok (.iadd, 1) := by decide +kernel
theorem d_Sh_growTrees_100 : decode prog_1_method_39_code 100 = .ok (.istore_n 1, 1) := by decide +kernel
theorem d_Sh_growTrees_101 : decode prog_1_method_39_code 101 = .ok (.aload_n 0, 1) := by decide +kernel
theorem d_Sh_growTrees_102 : decode prog_1_method_39_code 102 = .ok (.getfield 38, 3) := by decide +kernel
theorem d_Sh_growTrees_105 : decode prog_1_method_39_code 105 = .ok (.getfield 169, 3) := by decide +kernel
theorem d_Sh_growTrees_108 : decode prog_1_method_39_code 108 = .ok (.iload_n 2, 1) := by decide +kernel
theorem d_Sh_growTrees_109 : decode prog_1_method_39_code 109 = .ok (.iload_n 3, 1) := by decide +kernel
theorem d_Sh_growTrees_110 : decode prog_1_method_39_code 110 = .ok (.iastore, 1) := by decide +kernel
theorem d_Sh_growTrees_24 : decode prog_1_method_39_code 24 = .ok (.ifCond .eq 87, 3) := by decide +kernel
theorem d_Sh_growTrees_111 : decode prog_1_method_39_code 111 = .ok (.iinc 2 1, 3) := by decide +kernel
theorem d_Sh_growTrees_114 : decode prog_1_method_39_code 114 = .ok (.goto (-110), 3) := by decide +kernel
theorem d_Sh_growTrees_12 : decode prog_1_method_39_code 12 = .ok (.if_icmp .ge 105, 3) := by decide +kernel
def B_Sh_growTrees_l4 (N : Nat) (rec : Int32 → Int32 → Mem → Option (Int32 × Mem)) (x1 : Int32) (x2 : Int32) (σ : Mem) : Option (Int32 × Mem) :=
  if (mI σ 19 6) ≤ x2 then
    (some (x1, σ))
  else
    (bnd1 (f_To_isStandingOf σ x2 1) fun r21 =>
    bnd1 ((
      if r21 = 0 then
        (some (x1, σ))
      else
        (grd (inb x2 17) <|
        grd (inb x2 17) <|
        bnd1 (f_La_askTree N σ (mI σ 19 8) (mI σ 22 (x2.toNatClampNeg)) (mI σ 24 (x2.toNatClampNeg))) fun σ56 =>
        grd (inb x2 17) <|
        bnd2 (f_La_valueOf N σ56 103 0 9) fun r79 σ79 =>
        bnd1 (f_JM_min_7cf53 99 ((mI σ56 22 (x2.toNatClampNeg)) + r79)) fun r83 =>
        grd (inb x2 17) <|
        letv (x1 + (r83 - (mI σ79 22 (x2.toNatClampNeg)))) fun v100 =>
        grd (inb x2 17) <|
        letv (sI σ79 22 (x2.toNatClampNeg) r83) fun σ110 =>
        some (v100, σ110))) : Option (Int32 × Mem)) fun s24 =>
    q2 s24 fun y24_1 σ24_ =>
    letv (x2 + 1) fun v111 =>
    rec y24_1 v111 σ24_)
def L_Sh_growTrees_l4 (N : Nat) : Nat → Int32 → Int32 → Mem → Option (Int32 × Mem)
  | 0, _, _, _ => none
  | k + 1, x1, x2, σ => B_Sh_growTrees_l4 N (L_Sh_growTrees_l4 N k) x1 x2 σ
set_option maxHeartbeats 4000000 in
set_option maxRecDepth 20000 in
theorem cL_Sh_growTrees_l4 (Z : ZX) {Y : YX} {post : Option Value → Mem → Prop} {N : Nat} {Good : Int32 × Mem → Prop} (hR : ∀ (v : Int32) (σr : Mem), Good (v, σr) → post (some (.int v)) σr) : ∀ (k : Nat) (x1 : Int32) (x2 : Int32) (σ : Mem) (res : Int32 × Mem), L_Sh_growTrees_l4 N k x1 x2 σ = some res → Good res → V (mkB Z) Y m_Sh_growTrees 3 (QP (mkB Z) Y nC 0 0 post) 0 0 nC σ 4 [(0, rf Z 0), (1, .int x1), (2, .int x2)] [] := by
  intro k
  induction k with
  | zero => intro x1 x2 σ res h; cases h
  | succ k ih =>
    intro x1 x2 σ res h hg
    replace h : B_Sh_growTrees_l4 N (L_Sh_growTrees_l4 N k) x1 x2 σ = some res := h
    unfold B_Sh_growTrees_l4 at h
    refine V.iload_n d_Sh_growTrees_4 rfl 2 rfl ?_
    refine V.aload_n d_Sh_growTrees_5 rfl 0 rfl ?_
    refine V.getR (r := 19) ok_Sh fl_Sh_38 (by decide) (by decide) ly_0 rfl d_Sh_growTrees_6 ?_
    refine V.getI ok_To fl_Sh_363 (by decide) (by decide) ly_19 rfl d_Sh_growTrees_9 ?_
    refine V.icmp_ge (tgt := 117) d_Sh_growTrees_12 (by decide) (fun hc12 => ?_) (fun hc12 => ?_)
    · replace h := ite_t hc12 h
      refine V.iload_n d_Sh_growTrees_117 rfl 1 rfl ?_
      cases h
      exact V.iret rfl d_Sh_growTrees_118 (hR _ _ hg)
    · replace h := ite_f hc12 h
      refine V.aload_n d_Sh_growTrees_15 rfl 0 rfl ?_
      refine V.getR (r := 19) ok_Sh fl_Sh_38 (by decide) (by decide) ly_0 rfl d_Sh_growTrees_16 ?_
      refine V.iload_n d_Sh_growTrees_19 rfl 2 rfl ?_
      refine V.iconst (v := 1) d_Sh_growTrees_20 (by decide) ?_
      obtain ⟨r21, h1, h⟩ := bnd1_e h
      refine V.vI (as := [.int x2, .int 1]) (st := []) (c_To_isStandingOf Z h1) k_To_isStandingOf lk_Sh_149 (by decide) rfl (by decide) ly_19 ok_To.1 rfl (Nat.le_of_ble_eq_true rfl) d_Sh_growTrees_21 ?_
      obtain ⟨s24, h1, h⟩ := bnd1_e h
      have J24_111 : ∀ (y24_1 : Int32) (σ24_ : Mem), s24 = (y24_1, σ24_) → V (mkB Z) Y m_Sh_growTrees 3 (QP (mkB Z) Y nC 0 0 post) 0 0 nC σ24_ 111 [(0, rf Z 0), (1, .int y24_1), (2, .int x2)] [] := by
        intro y24_1 σ24_ he
        rw [he] at h
        replace h := q2_e h
        obtain ⟨v111, e_v111, h⟩ := letv_e h
        refine V.iinc (v := v111) (lv' := [(2, .int v111), (0, rf Z 0), (1, .int y24_1)]) d_Sh_growTrees_111 2 rfl (by rw [e_v111]; rfl) (by decide) rfl ?_
        refine V.goto (tgt := 4) d_Sh_growTrees_114 (by decide) ?_
        exact V.pick [1, 2, 0] rfl (ih _ _ _ _ h hg)
      replace h := h1
      refine V.if_eq (tgt := 111) d_Sh_growTrees_24 (by decide) (fun hc24 => ?_) (fun hc24 => ?_)
      · replace h := ite_t hc24 h
        exact V.pick [0, 1, 2] rfl (J24_111 _ _ (Option.some.inj h).symm)
      · replace h := ite_f hc24 h
        refine V.aload_n d_Sh_growTrees_27 rfl 0 rfl ?_
        refine V.getR (r := 3) ok_Sh fl_Sh_19 (by decide) (by decide) ly_0 rfl d_Sh_growTrees_28 ?_
        refine V.aload_n d_Sh_growTrees_31 rfl 0 rfl ?_
        refine V.getR (r := 19) ok_Sh fl_Sh_38 (by decide) (by decide) ly_0 rfl d_Sh_growTrees_32 ?_
        refine V.getI ok_To fl_Sh_159 (by decide) (by decide) ly_19 rfl d_Sh_growTrees_35 ?_
        refine V.aload_n d_Sh_growTrees_38 rfl 0 rfl ?_
        refine V.getR (r := 19) ok_Sh fl_Sh_38 (by decide) (by decide) ly_0 rfl d_Sh_growTrees_39 ?_
        refine V.getR (r := 22) ok_To fl_Sh_169 (by decide) (by decide) ly_19 rfl d_Sh_growTrees_42 ?_
        refine V.iload_n d_Sh_growTrees_45 rfl 2 rfl ?_
        obtain ⟨gq, h⟩ := grd_e h
        refine V.ra (by decide) ly_22 (inb_e gq) rfl d_Sh_growTrees_46 ?_
        refine V.aload_n d_Sh_growTrees_47 rfl 0 rfl ?_
        refine V.getR (r := 19) ok_Sh fl_Sh_38 (by decide) (by decide) ly_0 rfl d_Sh_growTrees_48 ?_
        refine V.getR (r := 24) ok_To fl_Sh_175 (by decide) (by decide) ly_19 rfl d_Sh_growTrees_51 ?_
        refine V.iload_n d_Sh_growTrees_54 rfl 2 rfl ?_
        obtain ⟨gq, h⟩ := grd_e h
        refine V.ra (by decide) ly_24 (inb_e gq) rfl d_Sh_growTrees_55 ?_
        obtain ⟨σ56, h1, h⟩ := bnd1_e h
        refine V.vN (as := [.int (mI σ 19 8), .int (mI σ 22 (x2.toNatClampNeg)), .int (mI σ 24 (x2.toNatClampNeg))]) (st := []) (c_La_askTree Z h1) k_La_askTree lk_Sh_378 (by decide) rfl (by decide) ly_3 ok_La.1 rfl (Nat.le_of_ble_eq_true rfl) d_Sh_growTrees_56 ?_
        refine V.bipush (v := 99) d_Sh_growTrees_59 (by decide) ?_
        refine V.aload_n d_Sh_growTrees_61 rfl 0 rfl ?_
        refine V.getR (r := 19) ok_Sh fl_Sh_38 (by decide) (by decide) ly_0 rfl d_Sh_growTrees_62 ?_
        refine V.getR (r := 22) ok_To fl_Sh_169 (by decide) (by decide) ly_19 rfl d_Sh_growTrees_65 ?_
        refine V.iload_n d_Sh_growTrees_68 rfl 2 rfl ?_
        obtain ⟨gq, h⟩ := grd_e h
        refine V.ra (by decide) ly_22 (inb_e gq) rfl d_Sh_growTrees_69 ?_
        refine V.aload_n d_Sh_growTrees_70 rfl 0 rfl ?_
        refine V.getR (r := 3) ok_Sh fl_Sh_19 (by decide) (by decide) ly_0 rfl d_Sh_growTrees_71 ?_
        refine V.bipush (v := 103) d_Sh_growTrees_74 (by decide) ?_
        refine V.iconst (v := 0) d_Sh_growTrees_76 (by decide) ?_
        refine V.bipush (v := 9) d_Sh_growTrees_77 (by decide) ?_
        obtain ⟨r79, σ79, h1, h⟩ := bnd2_e h
        refine V.vI (as := [.int 103, .int 0, .int 9]) (st := [.int (mI σ56 22 (x2.toNatClampNeg)), .int 99]) (c_La_valueOf Z h1) k_La_valueOf lk_Sh_381 (by decide) rfl (by decide) ly_3 ok_La.1 rfl (Nat.le_of_ble_eq_true rfl) d_Sh_growTrees_79 ?_
        refine V.iadd d_Sh_growTrees_82 ?_
        obtain ⟨r83, h1, h⟩ := bnd1_e h
        refine V.sI (as := [.int 99, .int ((mI σ56 22 (x2.toNatClampNeg)) + r79)]) (st := []) (c_JM_min_7cf53 Z h1) k_JM_min_7cf53 lk_Sh_299 (by decide) rfl rfl (Nat.le_of_ble_eq_true rfl) d_Sh_growTrees_83 ?_
        refine V.istore_n (lv' := [(3, .int r83), (0, rf Z 0), (1, .int x1), (2, .int x2)]) d_Sh_growTrees_86 rfl (by decide) rfl ?_
        refine V.iload_n d_Sh_growTrees_87 rfl 2 rfl ?_
        refine V.iload_n d_Sh_growTrees_88 rfl 0 rfl ?_
        refine V.aload_n d_Sh_growTrees_89 rfl 1 rfl ?_
        refine V.getR (r := 19) ok_Sh fl_Sh_38 (by decide) (by decide) ly_0 rfl d_Sh_growTrees_90 ?_
        refine V.getR (r := 22) ok_To fl_Sh_169 (by decide) (by decide) ly_19 rfl d_Sh_growTrees_93 ?_
        refine V.iload_n d_Sh_growTrees_96 rfl 3 rfl ?_
        obtain ⟨gq, h⟩ := grd_e h
        refine V.ra (by decide) ly_22 (inb_e gq) rfl d_Sh_growTrees_97 ?_
        refine V.isub d_Sh_growTrees_98 ?_
        refine V.iadd d_Sh_growTrees_99 ?_
        obtain ⟨v100, e_v100, h⟩ := letv_e h
        refine V.topI e_v100 ?_
        refine V.istore_n (lv' := [(1, .int v100), (3, .int r83), (0, rf Z 0), (2, .int x2)]) d_Sh_growTrees_100 rfl (by decide) rfl ?_
        refine V.aload_n d_Sh_growTrees_101 rfl 2 rfl ?_
        refine V.getR (r := 19) ok_Sh fl_Sh_38 (by decide) (by decide) ly_0 rfl d_Sh_growTrees_102 ?_
        refine V.getR (r := 22) ok_To fl_Sh_169 (by decide) (by decide) ly_19 rfl d_Sh_growTrees_105 ?_
        refine V.iload_n d_Sh_growTrees_108 rfl 3 rfl ?_
        refine V.iload_n d_Sh_growTrees_109 rfl 1 rfl ?_
        obtain ⟨gq, h⟩ := grd_e h
        obtain ⟨σ110, e_σ110, h⟩ := letv_e h
        refine V.wa (by decide) ly_22 (inb_e gq) rfl d_Sh_growTrees_110 e_σ110 ?_
        exact V.pick [2, 0, 3] rfl (J24_111 _ _ (Option.some.inj h).symm)
def f_Sh_growTrees (N : Nat) (σ : Mem) : Option (Int32 × Mem) :=
  L_Sh_growTrees_l4 N N 0 0 σ
set_option maxHeartbeats 4000000 in
set_option maxRecDepth 20000 in
theorem c_Sh_growTrees (Z : ZX) {N : Nat} {σ : Mem} {r : Int32} {σ' : Mem} (h : f_Sh_growTrees N σ = some (r, σ')) : CI Z 3 m_Sh_growTrees [rf Z 0] σ r σ' := by
  refine Ct.of (by decide +kernel) (Nat.le_of_ble_eq_true rfl) (fun Y => ?_)
  show V (mkB Z) Y m_Sh_growTrees 3 (QP (mkB Z) Y nC 0 0 (fun v t => v = some (.int r) ∧ t = σ')) 0 0 nC σ 0 [(0, rf Z 0)] []
  unfold f_Sh_growTrees at h
  refine V.iconst (v := 0) d_Sh_growTrees_0 (by decide) ?_
  refine V.istore_n (lv' := [(1, .int 0), (0, rf Z 0)]) d_Sh_growTrees_1 rfl (by decide) rfl ?_
  refine V.iconst (v := 0) d_Sh_growTrees_2 (by decide) ?_
  refine V.istore_n (lv' := [(2, .int 0), (1, .int 0), (0, rf Z 0)]) d_Sh_growTrees_3 rfl (by decide) rfl ?_
  refine V.pick [2, 1, 0] rfl (cL_Sh_growTrees_l4 Z (Good := fun z => z = _) (fun r4v r4m he => ?_) N _ _ _ _ h rfl)
  · cases he
    exact ⟨rfl, rfl⟩
abbrev m_Sh_years : MI := (⟨"ShadeTown", "years", "(I)I"⟩, prog_1_method_30_code, 4, (Option.some Jvm.ClassFile.FieldType.int))
theorem d_Sh_years_0 : decode prog_1_method_30_code 0 = .ok (.iload_n 1, 1) := by decide +kernel
theorem d_Sh_years_1 : decode prog_1_method_30_code 1 = .ok (.iconst 1, 1) := by decide +kernel
theorem d_Sh_years_11 : decode prog_1_method_30_code 11 = .ok (.iconst (-1), 1) := by decide +kernel
theorem d_Sh_years_12 : decode prog_1_method_30_code 12 = .ok (.ireturn, 1) := by decide +kernel
theorem d_Sh_years_5 : decode prog_1_method_30_code 5 = .ok (.iload_n 1, 1) := by decide +kernel
theorem d_Sh_years_6 : decode prog_1_method_30_code 6 = .ok (.bipush 60, 2) := by decide +kernel
theorem d_Sh_years_13 : decode prog_1_method_30_code 13 = .ok (.iconst 0, 1) := by decide +kernel
theorem d_Sh_years_14 : decode prog_1_method_30_code 14 = .ok (.istore_n 2, 1) := by decide +kernel
theorem d_Sh_years_15 : decode prog_1_method_30_code 15 = .ok (.iconst 0, 1) := by decide +kernel
theorem d_Sh_years_16 : decode prog_1_method_30_code 16 = .ok (.istore_n 3, 1) := by decide +kernel
theorem d_Sh_years_17 : decode prog_1_method_30_code 17 = .ok (.iload_n 3, 1) := by decide +kernel
theorem d_Sh_years_18 : decode prog_1_method_30_code 18 = .ok (.iload_n 1, 1) := by decide +kernel
theorem d_Sh_years_35 : decode prog_1_method_30_code 35 = .ok (.aload_n 0, 1) := by decide +kernel
theorem d_Sh_years_36 : decode prog_1_method_30_code 36 = .ok (.getfield 54, 3) := by decide +kernel
theorem d_Sh_years_39 : decode prog_1_method_30_code 39 = .ok (.invokevirtual 133, 3) := by decide +kernel
theorem d_Sh_years_42 : decode prog_1_method_30_code 42 = .ok (.iload_n 2, 1) := by decide +kernel
theorem d_Sh_years_43 : decode prog_1_method_30_code 43 = .ok (.ireturn, 1) := by decide +kernel
theorem d_Sh_years_22 : decode prog_1_method_30_code 22 = .ok (.iload_n 2, 1) := by decide +kernel
theorem d_Sh_years_23 : decode prog_1_method_30_code 23 = .ok (.aload_n 0, 1) := by decide +kernel
theorem d_Sh_years_24 : decode prog_1_method_30_code 24 = .ok (.invokevirtual 333, 3) := by decide +kernel
theorem k_Sh_growTrees : MOk m_Sh_growTrees 0 ∧ IOk m_Sh_growTrees := ⟨⟨atG 1241 (by decide +kernel) rfl, atG 111 (by decide +kernel) rfl, ⟨by decide, by decide⟩, by decide +kernel, by decide⟩, atG 1240 (by decide +kernel) rfl, atG 39 (by decide +kernel) rfl⟩
theorem lk_Sh_333 : Cond.methodLink "ShadeTown" 333 ⟨"ShadeTown", "growTrees", "()I"⟩ ∈ tblG := atG 1238 (by decide +kernel) rfl
theorem d_Sh_years_27 : decode prog_1_method_30_code 27 = .ok (.iadd, 1) := by decide +kernel
theorem d_Sh_years_28 : decode prog_1_method_30_code 28 = .ok (.istore_n 2, 1) := by decide +kernel
theorem d_Sh_years_29 : decode prog_1_method_30_code 29 = .ok (.iinc 3 1, 3) := by decide +kernel
theorem d_Sh_years_32 : decode prog_1_method_30_code 32 = .ok (.goto (-15), 3) := by decide +kernel
theorem d_Sh_years_19 : decode prog_1_method_30_code 19 = .ok (.if_icmp .ge 16, 3) := by decide +kernel
theorem d_Sh_years_8 : decode prog_1_method_30_code 8 = .ok (.if_icmp .le 5, 3) := by decide +kernel
theorem d_Sh_years_2 : decode prog_1_method_30_code 2 = .ok (.if_icmp .lt 9, 3) := by decide +kernel
def B_Sh_years_l17 (N : Nat) (a1 : Int32) (rec : Int32 → Int32 → Mem → Option (Int32 × Mem)) (x2 : Int32) (x3 : Int32) (σ : Mem) : Option (Int32 × Mem) :=
  if a1 ≤ x3 then
    (bnd1 (f_Da_forgetShade σ) fun σ39 =>
    some (x2, σ39))
  else
    (bnd2 (f_Sh_growTrees N σ) fun r24 σ24 =>
    letv (x2 + r24) fun v28 =>
    letv (x3 + 1) fun v29 =>
    rec v28 v29 σ24)
def L_Sh_years_l17 (N : Nat) (a1 : Int32) : Nat → Int32 → Int32 → Mem → Option (Int32 × Mem)
  | 0, _, _, _ => none
  | k + 1, x2, x3, σ => B_Sh_years_l17 N a1 (L_Sh_years_l17 N a1 k) x2 x3 σ
set_option maxHeartbeats 4000000 in
set_option maxRecDepth 20000 in
theorem cL_Sh_years_l17 (Z : ZX) {Y : YX} {post : Option Value → Mem → Prop} {N : Nat} {a1 : Int32} {Good : Int32 × Mem → Prop} (hR : ∀ (v : Int32) (σr : Mem), Good (v, σr) → post (some (.int v)) σr) : ∀ (k : Nat) (x2 : Int32) (x3 : Int32) (σ : Mem) (res : Int32 × Mem), L_Sh_years_l17 N a1 k x2 x3 σ = some res → Good res → V (mkB Z) Y m_Sh_years 4 (QP (mkB Z) Y nC 0 0 post) 0 0 nC σ 17 [(0, rf Z 0), (1, .int a1), (2, .int x2), (3, .int x3)] [] := by
  intro k
  induction k with
  | zero => intro x2 x3 σ res h; cases h
  | succ k ih =>
    intro x2 x3 σ res h hg
    replace h : B_Sh_years_l17 N a1 (L_Sh_years_l17 N a1 k) x2 x3 σ = some res := h
    unfold B_Sh_years_l17 at h
    refine V.iload_n d_Sh_years_17 rfl 3 rfl ?_
    refine V.iload_n d_Sh_years_18 rfl 1 rfl ?_
    refine V.icmp_ge (tgt := 35) d_Sh_years_19 (by decide) (fun hc19 => ?_) (fun hc19 => ?_)
    · replace h := ite_t hc19 h
      refine V.aload_n d_Sh_years_35 rfl 0 rfl ?_
      refine V.getR (r := 33) ok_Sh fl_Sh_54 (by decide) (by decide) ly_0 rfl d_Sh_years_36 ?_
      obtain ⟨σ39, h1, h⟩ := bnd1_e h
      refine V.vN (as := []) (st := []) (c_Da_forgetShade Z h1) k_Da_forgetShade lk_Sh_133 (by decide) rfl (by decide) ly_33 ok_Da.1 rfl (Nat.le_of_ble_eq_true rfl) d_Sh_years_39 ?_
      refine V.iload_n d_Sh_years_42 rfl 2 rfl ?_
      cases h
      exact V.iret rfl d_Sh_years_43 (hR _ _ hg)
    · replace h := ite_f hc19 h
      refine V.iload_n d_Sh_years_22 rfl 2 rfl ?_
      refine V.aload_n d_Sh_years_23 rfl 0 rfl ?_
      obtain ⟨r24, σ24, h1, h⟩ := bnd2_e h
      refine V.vI (as := []) (st := [.int x2]) (c_Sh_growTrees Z h1) k_Sh_growTrees lk_Sh_333 (by decide) rfl (by decide) ly_0 ok_Sh.1 rfl (Nat.le_of_ble_eq_true rfl) d_Sh_years_24 ?_
      refine V.iadd d_Sh_years_27 ?_
      obtain ⟨v28, e_v28, h⟩ := letv_e h
      refine V.topI e_v28 ?_
      refine V.istore_n (lv' := [(2, .int v28), (0, rf Z 0), (1, .int a1), (3, .int x3)]) d_Sh_years_28 rfl (by decide) rfl ?_
      obtain ⟨v29, e_v29, h⟩ := letv_e h
      refine V.iinc (v := v29) (lv' := [(3, .int v29), (2, .int v28), (0, rf Z 0), (1, .int a1)]) d_Sh_years_29 3 rfl (by rw [e_v29]; rfl) (by decide) rfl ?_
      refine V.goto (tgt := 17) d_Sh_years_32 (by decide) ?_
      exact V.pick [2, 3, 1, 0] rfl (ih _ _ _ _ h hg)
def f_Sh_years (N : Nat) (σ : Mem) (a1 : Int32) : Option (Int32 × Mem) :=
  if a1 < 1 then
    (some ((-1), σ))
  else
    (if a1 ≤ 60 then
      (L_Sh_years_l17 N a1 N 0 0 σ)
    else
      (some ((-1), σ)))
set_option maxHeartbeats 4000000 in
set_option maxRecDepth 20000 in
theorem c_Sh_years (Z : ZX) {N : Nat} {σ : Mem} {a1 : Int32} {r : Int32} {σ' : Mem} (h : f_Sh_years N σ a1 = some (r, σ')) : CI Z 4 m_Sh_years [rf Z 0, .int a1] σ r σ' := by
  refine Ct.of (by decide +kernel) (Nat.le_of_ble_eq_true rfl) (fun Y => ?_)
  show V (mkB Z) Y m_Sh_years 4 (QP (mkB Z) Y nC 0 0 (fun v t => v = some (.int r) ∧ t = σ')) 0 0 nC σ 0 [(0, rf Z 0), (1, .int a1)] []
  unfold f_Sh_years at h
  refine V.iload_n d_Sh_years_0 rfl 1 rfl ?_
  refine V.iconst (v := 1) d_Sh_years_1 (by decide) ?_
  refine V.icmp_lt (tgt := 11) d_Sh_years_2 (by decide) (fun hc2 => ?_) (fun hc2 => ?_)
  · replace h := ite_t hc2 h
    refine V.iconst (v := (-1)) d_Sh_years_11 (by decide) ?_
    cases h
    exact V.iret rfl d_Sh_years_12 ⟨rfl, rfl⟩
  · replace h := ite_f hc2 h
    refine V.iload_n d_Sh_years_5 rfl 1 rfl ?_
    refine V.bipush (v := 60) d_Sh_years_6 (by decide) ?_
    refine V.icmp_le (tgt := 13) d_Sh_years_8 (by decide) (fun hc8 => ?_) (fun hc8 => ?_)
    · replace h := ite_t hc8 h
      refine V.iconst (v := 0) d_Sh_years_13 (by decide) ?_
      refine V.istore_n (lv' := [(2, .int 0), (0, rf Z 0), (1, .int a1)]) d_Sh_years_14 rfl (by decide) rfl ?_
      refine V.iconst (v := 0) d_Sh_years_15 (by decide) ?_
      refine V.istore_n (lv' := [(3, .int 0), (2, .int 0), (0, rf Z 0), (1, .int a1)]) d_Sh_years_16 rfl (by decide) rfl ?_
      refine V.pick [2, 3, 1, 0] rfl (cL_Sh_years_l17 Z (Good := fun z => z = _) (fun r17v r17m he => ?_) N _ _ _ _ h rfl)
      · cases he
        exact ⟨rfl, rfl⟩
    · replace h := ite_f hc8 h
      refine V.iconst (v := (-1)) d_Sh_years_11 (by decide) ?_
      cases h
      exact V.iret rfl d_Sh_years_12 ⟨rfl, rfl⟩
abbrev m_Cl_bringHour : MI := (⟨"ShadeTown$Clouds", "bringHour", "(LShadeTown$Day;LShadeTown$Town;I)V"⟩, prog_2_method_3_code, 8, (Option.none : Option Jvm.ClassFile.FieldType))
theorem d_Cl_bringHour_0 : decode prog_2_method_3_code 0 = .ok (.iconst 0, 1) := by decide +kernel
theorem d_Cl_bringHour_1 : decode prog_2_method_3_code 1 = .ok (.istore 4, 2) := by decide +kernel
theorem d_Cl_bringHour_3 : decode prog_2_method_3_code 3 = .ok (.iload 4, 2) := by decide +kernel
theorem d_Cl_bringHour_5 : decode prog_2_method_3_code 5 = .ok (.sipush 144, 3) := by decide +kernel
theorem d_Cl_bringHour_95 : decode prog_2_method_3_code 95 = .ok (.return_, 1) := by decide +kernel
theorem d_Cl_bringHour_11 : decode prog_2_method_3_code 11 = .ok (.aload_n 1, 1) := by decide +kernel
theorem d_Cl_bringHour_12 : decode prog_2_method_3_code 12 = .ok (.iload_n 3, 1) := by decide +kernel
theorem d_Cl_bringHour_13 : decode prog_2_method_3_code 13 = .ok (.iload 4, 2) := by decide +kernel
theorem d_Cl_bringHour_15 : decode prog_2_method_3_code 15 = .ok (.invokevirtual 46, 3) := by decide +kernel
theorem lk_Cl_46 : Cond.methodLink "ShadeTown$Clouds" 46 ⟨"ShadeTown$Day", "whoCasts", "(II)I"⟩ ∈ tblG := atG 1262 (by decide +kernel) rfl
theorem d_Cl_bringHour_18 : decode prog_2_method_3_code 18 = .ok (.istore 5, 2) := by decide +kernel
theorem d_Cl_bringHour_20 : decode prog_2_method_3_code 20 = .ok (.iload 5, 2) := by decide +kernel
theorem d_Cl_bringHour_25 : decode prog_2_method_3_code 25 = .ok (.aload_n 1, 1) := by decide +kernel
theorem d_Cl_bringHour_26 : decode prog_2_method_3_code 26 = .ok (.iload_n 3, 1) := by decide +kernel
theorem d_Cl_bringHour_27 : decode prog_2_method_3_code 27 = .ok (.iload 4, 2) := by decide +kernel
theorem d_Cl_bringHour_29 : decode prog_2_method_3_code 29 = .ok (.invokevirtual 50, 3) := by decide +kernel
theorem lk_Cl_50 : Cond.methodLink "ShadeTown$Clouds" 50 ⟨"ShadeTown$Day", "priceOf", "(II)I"⟩ ∈ tblG := atG 1263 (by decide +kernel) rfl
theorem d_Cl_bringHour_32 : decode prog_2_method_3_code 32 = .ok (.iload 5, 2) := by decide +kernel
theorem d_Cl_bringHour_34 : decode prog_2_method_3_code 34 = .ok (.invokestatic 53, 3) := by decide +kernel
theorem lk_Cl_53 : Cond.methodLink "ShadeTown$Clouds" 53 ⟨"java/lang/Integer", "bitCount", "(I)I"⟩ ∈ tblG := atG 1264 (by decide +kernel) rfl
theorem d_Cl_bringHour_37 : decode prog_2_method_3_code 37 = .ok (.idiv, 1) := by decide +kernel
theorem d_Cl_bringHour_38 : decode prog_2_method_3_code 38 = .ok (.istore 6, 2) := by decide +kernel
theorem d_Cl_bringHour_40 : decode prog_2_method_3_code 40 = .ok (.iconst 0, 1) := by decide +kernel
theorem d_Cl_bringHour_41 : decode prog_2_method_3_code 41 = .ok (.istore 7, 2) := by decide +kernel
theorem d_Cl_bringHour_43 : decode prog_2_method_3_code 43 = .ok (.iload 7, 2) := by decide +kernel
theorem d_Cl_bringHour_45 : decode prog_2_method_3_code 45 = .ok (.bipush 16, 2) := by decide +kernel
theorem d_Cl_bringHour_50 : decode prog_2_method_3_code 50 = .ok (.iload 5, 2) := by decide +kernel
theorem d_Cl_bringHour_52 : decode prog_2_method_3_code 52 = .ok (.iload 7, 2) := by decide +kernel
theorem d_Cl_bringHour_54 : decode prog_2_method_3_code 54 = .ok (.ishr, 1) := by decide +kernel
theorem d_Cl_bringHour_55 : decode prog_2_method_3_code 55 = .ok (.iconst 1, 1) := by decide +kernel
theorem d_Cl_bringHour_56 : decode prog_2_method_3_code 56 = .ok (.iand, 1) := by decide +kernel
theorem d_Cl_bringHour_57 : decode prog_2_method_3_code 57 = .ok (.iconst 1, 1) := by decide +kernel
theorem d_Cl_bringHour_61 : decode prog_2_method_3_code 61 = .ok (.aload_n 0, 1) := by decide +kernel
theorem fl_Cl_9 : FL "ShadeTown$Clouds" 9 T_Cl 0 := atG 415 (by decide +kernel) rfl
theorem d_Cl_bringHour_62 : decode prog_2_method_3_code 62 = .ok (.getfield 9, 3) := by decide +kernel
theorem d_Cl_bringHour_65 : decode prog_2_method_3_code 65 = .ok (.iload_n 3, 1) := by decide +kernel
theorem d_Cl_bringHour_66 : decode prog_2_method_3_code 66 = .ok (.bipush 6, 2) := by decide +kernel
theorem d_Cl_bringHour_68 : decode prog_2_method_3_code 68 = .ok (.imul, 1) := by decide +kernel
theorem d_Cl_bringHour_69 : decode prog_2_method_3_code 69 = .ok (.aload_n 2, 1) := by decide +kernel
theorem fl_Cl_58 : FL "ShadeTown$Clouds" 58 T_To 4 := atG 229 (by decide +kernel) rfl
theorem d_Cl_bringHour_70 : decode prog_2_method_3_code 70 = .ok (.getfield 58, 3) := by decide +kernel
theorem d_Cl_bringHour_73 : decode prog_2_method_3_code 73 = .ok (.iload 7, 2) := by decide +kernel
theorem d_Cl_bringHour_75 : decode prog_2_method_3_code 75 = .ok (.iaload, 1) := by decide +kernel
theorem d_Cl_bringHour_76 : decode prog_2_method_3_code 76 = .ok (.iadd, 1) := by decide +kernel
theorem d_Cl_bringHour_77 : decode prog_2_method_3_code 77 = .ok (.dup2, 1) := by decide +kernel
theorem d_Cl_bringHour_78 : decode prog_2_method_3_code 78 = .ok (.iaload, 1) := by decide +kernel
theorem d_Cl_bringHour_79 : decode prog_2_method_3_code 79 = .ok (.iload 6, 2) := by decide +kernel
theorem d_Cl_bringHour_81 : decode prog_2_method_3_code 81 = .ok (.iadd, 1) := by decide +kernel
theorem d_Cl_bringHour_82 : decode prog_2_method_3_code 82 = .ok (.iastore, 1) := by decide +kernel
theorem d_Cl_bringHour_58 : decode prog_2_method_3_code 58 = .ok (.if_icmp .ne 25, 3) := by decide +kernel
theorem d_Cl_bringHour_83 : decode prog_2_method_3_code 83 = .ok (.iinc 7 1, 3) := by decide +kernel
theorem d_Cl_bringHour_86 : decode prog_2_method_3_code 86 = .ok (.goto (-43), 3) := by decide +kernel
theorem d_Cl_bringHour_47 : decode prog_2_method_3_code 47 = .ok (.if_icmp .ge 42, 3) := by decide +kernel
theorem d_Cl_bringHour_22 : decode prog_2_method_3_code 22 = .ok (.ifCond .eq 67, 3) := by decide +kernel
theorem d_Cl_bringHour_89 : decode prog_2_method_3_code 89 = .ok (.iinc 4 1, 3) := by decide +kernel
theorem d_Cl_bringHour_92 : decode prog_2_method_3_code 92 = .ok (.goto (-89), 3) := by decide +kernel
theorem d_Cl_bringHour_8 : decode prog_2_method_3_code 8 = .ok (.if_icmp .ge 87, 3) := by decide +kernel
def B_Cl_bringHour_l43 (N : Nat) (a3 : Int32) (a4 : Int32) (a5 : Int32) (a6 : Int32) (rec : Int32 → Mem → Option (Mem)) (x7 : Int32) (σ : Mem) : Option (Mem) :=
  if 16 ≤ x7 then
    (some σ)
  else
    (bnd1 ((
      if (a5 >>> (x7 &&& 31)) &&& 1 = 1 then
        (grd (inb x7 17) <|
        letv ((a3 * 6) + (mI σ 24 (x7.toNatClampNeg))) fun v77 =>
        grd (inb v77 144) <|
        grd (inb v77 144) <|
        letv (sI σ 64 (v77.toNatClampNeg) ((mI σ 64 (v77.toNatClampNeg)) + a6)) fun σ82 =>
        some σ82)
      else
        (some σ)) : Option (Mem)) fun σ58_ =>
    letv (x7 + 1) fun v83 =>
    rec v83 σ58_)
def L_Cl_bringHour_l43 (N : Nat) (a3 : Int32) (a4 : Int32) (a5 : Int32) (a6 : Int32) : Nat → Int32 → Mem → Option (Mem)
  | 0, _, _ => none
  | k + 1, x7, σ => B_Cl_bringHour_l43 N a3 a4 a5 a6 (L_Cl_bringHour_l43 N a3 a4 a5 a6 k) x7 σ
set_option maxHeartbeats 4000000 in
set_option maxRecDepth 20000 in
theorem cL_Cl_bringHour_l43 (Z : ZX) {Y : YX} {Q : State → Prop} {N : Nat} {a3 : Int32} {a4 : Int32} {a5 : Int32} {a6 : Int32} {Good : Mem → Prop} (hE : ∀ (σe : Mem), Good σe → V (mkB Z) Y m_Cl_bringHour 4 Q 0 0 nC σe 89 [(0, rf Z 63), (1, rf Z 33), (2, rf Z 19), (3, .int a3), (4, .int a4)] []) : ∀ (k : Nat) (x7 : Int32) (σ : Mem) (res : Mem), L_Cl_bringHour_l43 N a3 a4 a5 a6 k x7 σ = some res → Good res → V (mkB Z) Y m_Cl_bringHour 4 Q 0 0 nC σ 43 [(0, rf Z 63), (1, rf Z 33), (2, rf Z 19), (3, .int a3), (4, .int a4), (5, .int a5), (6, .int a6), (7, .int x7)] [] := by
  intro k
  induction k with
  | zero => intro x7 σ res h; cases h
  | succ k ih =>
    intro x7 σ res h hg
    replace h : B_Cl_bringHour_l43 N a3 a4 a5 a6 (L_Cl_bringHour_l43 N a3 a4 a5 a6 k) x7 σ = some res := h
    unfold B_Cl_bringHour_l43 at h
    refine V.iload d_Cl_bringHour_43 7 rfl ?_
    refine V.bipush (v := 16) d_Cl_bringHour_45 (by decide) ?_
    refine V.icmp_ge (tgt := 89) d_Cl_bringHour_47 (by decide) (fun hc47 => ?_) (fun hc47 => ?_)
    · replace h := ite_t hc47 h
      cases h
      exact V.pick [0, 1, 2, 3, 4] rfl (hE _ hg)
    · replace h := ite_f hc47 h
      refine V.iload d_Cl_bringHour_50 5 rfl ?_
      refine V.iload d_Cl_bringHour_52 7 rfl ?_
      refine V.ishr d_Cl_bringHour_54 ?_
      refine V.iconst (v := 1) d_Cl_bringHour_55 (by decide) ?_
      refine V.iand d_Cl_bringHour_56 ?_
      refine V.iconst (v := 1) d_Cl_bringHour_57 (by decide) ?_
      obtain ⟨s58, h1, h⟩ := bnd1_e h
      have J58_83 : ∀ (σ58_ : Mem), s58 = σ58_ → V (mkB Z) Y m_Cl_bringHour 4 Q 0 0 nC σ58_ 83 [(0, rf Z 63), (1, rf Z 33), (2, rf Z 19), (3, .int a3), (4, .int a4), (5, .int a5), (6, .int a6), (7, .int x7)] [] := by
        intro σ58_ he
        rw [he] at h
        obtain ⟨v83, e_v83, h⟩ := letv_e h
        refine V.iinc (v := v83) (lv' := [(7, .int v83), (0, rf Z 63), (1, rf Z 33), (2, rf Z 19), (3, .int a3), (4, .int a4), (5, .int a5), (6, .int a6)]) d_Cl_bringHour_83 7 rfl (by rw [e_v83]; rfl) (by decide) rfl ?_
        refine V.goto (tgt := 43) d_Cl_bringHour_86 (by decide) ?_
        exact V.pick [1, 2, 3, 4, 5, 6, 7, 0] rfl (ih _ _ _ h hg)
      replace h := h1
      refine V.icmp_ne (tgt := 83) d_Cl_bringHour_58 (by decide) (fun hc58 => ?_) (fun hc58 => ?_)
      · replace h := ite_f hc58 h
        exact V.pick [0, 1, 2, 3, 4, 5, 6, 7] rfl (J58_83 _ (Option.some.inj h).symm)
      · replace h := ite_t hc58 h
        refine V.aload_n d_Cl_bringHour_61 rfl 0 rfl ?_
        refine V.getR (r := 64) ok_Cl fl_Cl_9 (by decide) (by decide) ly_63 rfl d_Cl_bringHour_62 ?_
        refine V.iload_n d_Cl_bringHour_65 rfl 3 rfl ?_
        refine V.bipush (v := 6) d_Cl_bringHour_66 (by decide) ?_
        refine V.imul d_Cl_bringHour_68 ?_
        refine V.aload_n d_Cl_bringHour_69 rfl 2 rfl ?_
        refine V.getR (r := 24) ok_To fl_Cl_58 (by decide) (by decide) ly_19 rfl d_Cl_bringHour_70 ?_
        refine V.iload d_Cl_bringHour_73 7 rfl ?_
        obtain ⟨gq, h⟩ := grd_e h
        refine V.ra (by decide) ly_24 (inb_e gq) rfl d_Cl_bringHour_75 ?_
        refine V.iadd d_Cl_bringHour_76 ?_
        obtain ⟨v77, e_v77, h⟩ := letv_e h
        refine V.topI e_v77 ?_
        refine V.dup2 d_Cl_bringHour_77 rfl rfl ?_
        obtain ⟨gq, h⟩ := grd_e h
        refine V.ra (by decide) ly_64 (inb_e gq) rfl d_Cl_bringHour_78 ?_
        refine V.iload d_Cl_bringHour_79 6 rfl ?_
        refine V.iadd d_Cl_bringHour_81 ?_
        obtain ⟨gq, h⟩ := grd_e h
        obtain ⟨σ82, e_σ82, h⟩ := letv_e h
        refine V.wa (by decide) ly_64 (inb_e gq) rfl d_Cl_bringHour_82 e_σ82 ?_
        exact V.pick [0, 1, 2, 3, 4, 5, 6, 7] rfl (J58_83 _ (Option.some.inj h).symm)
def B_Cl_bringHour_l3 (N : Nat) (a3 : Int32) (rec : Int32 → Mem → Option (Mem)) (x4 : Int32) (σ : Mem) : Option (Mem) :=
  if 144 ≤ x4 then
    (some σ)
  else
    (bnd1 (f_Da_whoCasts σ a3 x4) fun r15 =>
    bnd1 ((
      if r15 = 0 then
        (some σ)
      else
        (bnd2 (f_Da_priceOf N σ a3 x4) fun r29 σ29 =>
        bnd1 (f_JI_bitCount_0f7a4 r15) fun r34 =>
        grd (decide (¬ r34 = 0)) <|
        letv (r29 / r34) fun v38 =>
        bnd1 (L_Cl_bringHour_l43 N a3 x4 r15 v38 N 0 σ29) fun σ43_ =>
        some σ43_)) : Option (Mem)) fun σ22_ =>
    letv (x4 + 1) fun v89 =>
    rec v89 σ22_)
def L_Cl_bringHour_l3 (N : Nat) (a3 : Int32) : Nat → Int32 → Mem → Option (Mem)
  | 0, _, _ => none
  | k + 1, x4, σ => B_Cl_bringHour_l3 N a3 (L_Cl_bringHour_l3 N a3 k) x4 σ
set_option maxHeartbeats 4000000 in
set_option maxRecDepth 20000 in
theorem cL_Cl_bringHour_l3 (Z : ZX) {Y : YX} {post : Option Value → Mem → Prop} {N : Nat} {a3 : Int32} {Good : Mem → Prop} (hR : ∀ (σr : Mem), Good σr → post none σr) : ∀ (k : Nat) (x4 : Int32) (σ : Mem) (res : Mem), L_Cl_bringHour_l3 N a3 k x4 σ = some res → Good res → V (mkB Z) Y m_Cl_bringHour 4 (QP (mkB Z) Y nC 0 0 post) 0 0 nC σ 3 [(0, rf Z 63), (1, rf Z 33), (2, rf Z 19), (3, .int a3), (4, .int x4)] [] := by
  intro k
  induction k with
  | zero => intro x4 σ res h; cases h
  | succ k ih =>
    intro x4 σ res h hg
    replace h : B_Cl_bringHour_l3 N a3 (L_Cl_bringHour_l3 N a3 k) x4 σ = some res := h
    unfold B_Cl_bringHour_l3 at h
    refine V.iload d_Cl_bringHour_3 4 rfl ?_
    refine V.sipush (v := 144) d_Cl_bringHour_5 (by decide) ?_
    refine V.icmp_ge (tgt := 95) d_Cl_bringHour_8 (by decide) (fun hc8 => ?_) (fun hc8 => ?_)
    · replace h := ite_t hc8 h
      cases h
      exact V.vret rfl d_Cl_bringHour_95 (hR _ hg)
    · replace h := ite_f hc8 h
      refine V.aload_n d_Cl_bringHour_11 rfl 1 rfl ?_
      refine V.iload_n d_Cl_bringHour_12 rfl 3 rfl ?_
      refine V.iload d_Cl_bringHour_13 4 rfl ?_
      obtain ⟨r15, h1, h⟩ := bnd1_e h
      refine V.vI (as := [.int a3, .int x4]) (st := []) (c_Da_whoCasts Z h1) k_Da_whoCasts lk_Cl_46 (by decide) rfl (by decide) ly_33 ok_Da.1 rfl (Nat.le_of_ble_eq_true rfl) d_Cl_bringHour_15 ?_
      refine V.istore (lv' := [(5, .int r15), (0, rf Z 63), (1, rf Z 33), (2, rf Z 19), (3, .int a3), (4, .int x4)]) d_Cl_bringHour_18 (by decide) rfl ?_
      refine V.iload d_Cl_bringHour_20 0 rfl ?_
      obtain ⟨s22, h1, h⟩ := bnd1_e h
      have J22_89 : ∀ (σ22_ : Mem), s22 = σ22_ → V (mkB Z) Y m_Cl_bringHour 4 (QP (mkB Z) Y nC 0 0 post) 0 0 nC σ22_ 89 [(0, rf Z 63), (1, rf Z 33), (2, rf Z 19), (3, .int a3), (4, .int x4)] [] := by
        intro σ22_ he
        rw [he] at h
        obtain ⟨v89, e_v89, h⟩ := letv_e h
        refine V.iinc (v := v89) (lv' := [(4, .int v89), (0, rf Z 63), (1, rf Z 33), (2, rf Z 19), (3, .int a3)]) d_Cl_bringHour_89 4 rfl (by rw [e_v89]; rfl) (by decide) rfl ?_
        refine V.goto (tgt := 3) d_Cl_bringHour_92 (by decide) ?_
        exact V.pick [1, 2, 3, 4, 0] rfl (ih _ _ _ h hg)
      replace h := h1
      refine V.if_eq (tgt := 89) d_Cl_bringHour_22 (by decide) (fun hc22 => ?_) (fun hc22 => ?_)
      · replace h := ite_t hc22 h
        exact V.pick [1, 2, 3, 4, 5] rfl (J22_89 _ (Option.some.inj h).symm)
      · replace h := ite_f hc22 h
        refine V.aload_n d_Cl_bringHour_25 rfl 2 rfl ?_
        refine V.iload_n d_Cl_bringHour_26 rfl 4 rfl ?_
        refine V.iload d_Cl_bringHour_27 5 rfl ?_
        obtain ⟨r29, σ29, h1, h⟩ := bnd2_e h
        refine V.vI (as := [.int a3, .int x4]) (st := []) (c_Da_priceOf Z h1) k_Da_priceOf lk_Cl_50 (by decide) rfl (by decide) ly_33 ok_Da.1 rfl (Nat.le_of_ble_eq_true rfl) d_Cl_bringHour_29 ?_
        refine V.iload d_Cl_bringHour_32 0 rfl ?_
        obtain ⟨r34, h1, h⟩ := bnd1_e h
        refine V.sI (as := [.int r15]) (st := [.int r29]) (c_JI_bitCount_0f7a4 Z h1) k_JI_bitCount_0f7a4 lk_Cl_53 (by decide) rfl rfl (Nat.le_of_ble_eq_true rfl) d_Cl_bringHour_34 ?_
        obtain ⟨gq, h⟩ := grd_e h
        refine V.idiv d_Cl_bringHour_37 (of_decide_eq_true gq) ?_
        obtain ⟨v38, e_v38, h⟩ := letv_e h
        refine V.topI e_v38 ?_
        refine V.istore (lv' := [(6, .int v38), (5, .int r15), (0, rf Z 63), (1, rf Z 33), (2, rf Z 19), (3, .int a3), (4, .int x4)]) d_Cl_bringHour_38 (by decide) rfl ?_
        refine V.iconst (v := 0) d_Cl_bringHour_40 (by decide) ?_
        refine V.istore (lv' := [(7, .int 0), (6, .int v38), (5, .int r15), (0, rf Z 63), (1, rf Z 33), (2, rf Z 19), (3, .int a3), (4, .int x4)]) d_Cl_bringHour_41 (by decide) rfl ?_
        obtain ⟨x43_, h1, h⟩ := bnd1_e h
        refine V.pick [3, 4, 5, 6, 7, 2, 1, 0] rfl (cL_Cl_bringHour_l43 Z (Good := fun z => x43_ = z) (fun σ43_ he => ?_) N _ _ _ h1 rfl)
        · rw [he] at h
          exact V.pick [0, 1, 2, 3, 4] rfl (J22_89 _ (Option.some.inj h).symm)
def f_Cl_bringHour (N : Nat) (σ : Mem) (a3 : Int32) : Option (Mem) :=
  L_Cl_bringHour_l3 N a3 N 0 σ
set_option maxHeartbeats 4000000 in
set_option maxRecDepth 20000 in
theorem c_Cl_bringHour (Z : ZX) {N : Nat} {σ : Mem} {a3 : Int32} {σ' : Mem} (h : f_Cl_bringHour N σ a3 = some σ') : CN Z 4 m_Cl_bringHour [rf Z 63, rf Z 33, rf Z 19, .int a3] σ σ' := by
  refine Ct.of (by decide +kernel) (Nat.le_of_ble_eq_true rfl) (fun Y => ?_)
  show V (mkB Z) Y m_Cl_bringHour 4 (QP (mkB Z) Y nC 0 0 (fun v t => v = none ∧ t = σ')) 0 0 nC σ 0 [(0, rf Z 63), (1, rf Z 33), (2, rf Z 19), (3, .int a3)] []
  unfold f_Cl_bringHour at h
  refine V.iconst (v := 0) d_Cl_bringHour_0 (by decide) ?_
  refine V.istore (lv' := [(4, .int 0), (0, rf Z 63), (1, rf Z 33), (2, rf Z 19), (3, .int a3)]) d_Cl_bringHour_1 (by decide) rfl ?_
  refine V.pick [1, 2, 3, 4, 0] rfl (cL_Cl_bringHour_l3 Z (Good := fun z => z = _) (fun r3m he => ?_) N _ _ _ h rfl)
  · cases he
    exact ⟨rfl, rfl⟩
abbrev m_Cl_payHour : MI := (⟨"ShadeTown$Clouds", "payHour", "(LShadeTown$Town;I)I"⟩, prog_2_method_4_code, 6, (Option.some Jvm.ClassFile.FieldType.int))
theorem d_Cl_payHour_0 : decode prog_2_method_4_code 0 = .ok (.iconst 0, 1) := by decide +kernel
theorem d_Cl_payHour_1 : decode prog_2_method_4_code 1 = .ok (.istore_n 3, 1) := by decide +kernel
theorem d_Cl_payHour_2 : decode prog_2_method_4_code 2 = .ok (.iconst 0, 1) := by decide +kernel
theorem d_Cl_payHour_3 : decode prog_2_method_4_code 3 = .ok (.istore 4, 2) := by decide +kernel
theorem d_Cl_payHour_5 : decode prog_2_method_4_code 5 = .ok (.iload 4, 2) := by decide +kernel
theorem d_Cl_payHour_7 : decode prog_2_method_4_code 7 = .ok (.bipush 6, 2) := by decide +kernel
theorem d_Cl_payHour_49 : decode prog_2_method_4_code 49 = .ok (.iload_n 3, 1) := by decide +kernel
theorem d_Cl_payHour_50 : decode prog_2_method_4_code 50 = .ok (.ireturn, 1) := by decide +kernel
theorem d_Cl_payHour_12 : decode prog_2_method_4_code 12 = .ok (.aload_n 0, 1) := by decide +kernel
theorem d_Cl_payHour_13 : decode prog_2_method_4_code 13 = .ok (.getfield 9, 3) := by decide +kernel
theorem d_Cl_payHour_16 : decode prog_2_method_4_code 16 = .ok (.iload_n 2, 1) := by decide +kernel
theorem d_Cl_payHour_17 : decode prog_2_method_4_code 17 = .ok (.bipush 6, 2) := by decide +kernel
theorem d_Cl_payHour_19 : decode prog_2_method_4_code 19 = .ok (.imul, 1) := by decide +kernel
theorem d_Cl_payHour_20 : decode prog_2_method_4_code 20 = .ok (.iload 4, 2) := by decide +kernel
theorem d_Cl_payHour_22 : decode prog_2_method_4_code 22 = .ok (.iadd, 1) := by decide +kernel
theorem d_Cl_payHour_23 : decode prog_2_method_4_code 23 = .ok (.iaload, 1) := by decide +kernel
theorem d_Cl_payHour_24 : decode prog_2_method_4_code 24 = .ok (.istore 5, 2) := by decide +kernel
theorem d_Cl_payHour_26 : decode prog_2_method_4_code 26 = .ok (.aload_n 1, 1) := by decide +kernel
theorem fl_Cl_61 : FL "ShadeTown$Clouds" 61 T_To 5 := atG 232 (by decide +kernel) rfl
theorem d_Cl_payHour_27 : decode prog_2_method_4_code 27 = .ok (.getfield 61, 3) := by decide +kernel
theorem d_Cl_payHour_30 : decode prog_2_method_4_code 30 = .ok (.iload 4, 2) := by decide +kernel
theorem d_Cl_payHour_32 : decode prog_2_method_4_code 32 = .ok (.dup2, 1) := by decide +kernel
theorem d_Cl_payHour_33 : decode prog_2_method_4_code 33 = .ok (.iaload, 1) := by decide +kernel
theorem d_Cl_payHour_34 : decode prog_2_method_4_code 34 = .ok (.iload 5, 2) := by decide +kernel
theorem d_Cl_payHour_36 : decode prog_2_method_4_code 36 = .ok (.iadd, 1) := by decide +kernel
theorem d_Cl_payHour_37 : decode prog_2_method_4_code 37 = .ok (.iastore, 1) := by decide +kernel
theorem d_Cl_payHour_38 : decode prog_2_method_4_code 38 = .ok (.iload_n 3, 1) := by decide +kernel
theorem d_Cl_payHour_39 : decode prog_2_method_4_code 39 = .ok (.iload 5, 2) := by decide +kernel
theorem d_Cl_payHour_41 : decode prog_2_method_4_code 41 = .ok (.iadd, 1) := by decide +kernel
theorem d_Cl_payHour_42 : decode prog_2_method_4_code 42 = .ok (.istore_n 3, 1) := by decide +kernel
theorem d_Cl_payHour_43 : decode prog_2_method_4_code 43 = .ok (.iinc 4 1, 3) := by decide +kernel
theorem d_Cl_payHour_46 : decode prog_2_method_4_code 46 = .ok (.goto (-41), 3) := by decide +kernel
theorem d_Cl_payHour_9 : decode prog_2_method_4_code 9 = .ok (.if_icmp .ge 40, 3) := by decide +kernel
def B_Cl_payHour_l5 (N : Nat) (a2 : Int32) (rec : Int32 → Int32 → Mem → Option (Int32 × Mem)) (x3 : Int32) (x4 : Int32) (σ : Mem) : Option (Int32 × Mem) :=
  if 6 ≤ x4 then
    (some (x3, σ))
  else
    (grd (inb ((a2 * 6) + x4) 144) <|
    letv (mI σ 64 (((a2 * 6) + x4).toNatClampNeg)) fun v24 =>
    grd (inb x4 6) <|
    grd (inb x4 6) <|
    letv (sI σ 25 (x4.toNatClampNeg) ((mI σ 25 (x4.toNatClampNeg)) + v24)) fun σ37 =>
    letv (x3 + v24) fun v42 =>
    letv (x4 + 1) fun v43 =>
    rec v42 v43 σ37)
def L_Cl_payHour_l5 (N : Nat) (a2 : Int32) : Nat → Int32 → Int32 → Mem → Option (Int32 × Mem)
  | 0, _, _, _ => none
  | k + 1, x3, x4, σ => B_Cl_payHour_l5 N a2 (L_Cl_payHour_l5 N a2 k) x3 x4 σ
set_option maxHeartbeats 4000000 in
set_option maxRecDepth 20000 in
theorem cL_Cl_payHour_l5 (Z : ZX) {Y : YX} {post : Option Value → Mem → Prop} {N : Nat} {a2 : Int32} {Good : Int32 × Mem → Prop} (hR : ∀ (v : Int32) (σr : Mem), Good (v, σr) → post (some (.int v)) σr) : ∀ (k : Nat) (x3 : Int32) (x4 : Int32) (σ : Mem) (res : Int32 × Mem), L_Cl_payHour_l5 N a2 k x3 x4 σ = some res → Good res → V (mkB Z) Y m_Cl_payHour 0 (QP (mkB Z) Y nC 0 0 post) 0 0 nC σ 5 [(0, rf Z 63), (1, rf Z 19), (2, .int a2), (3, .int x3), (4, .int x4)] [] := by
  intro k
  induction k with
  | zero => intro x3 x4 σ res h; cases h
  | succ k ih =>
    intro x3 x4 σ res h hg
    replace h : B_Cl_payHour_l5 N a2 (L_Cl_payHour_l5 N a2 k) x3 x4 σ = some res := h
    unfold B_Cl_payHour_l5 at h
    refine V.iload d_Cl_payHour_5 4 rfl ?_
    refine V.bipush (v := 6) d_Cl_payHour_7 (by decide) ?_
    refine V.icmp_ge (tgt := 49) d_Cl_payHour_9 (by decide) (fun hc9 => ?_) (fun hc9 => ?_)
    · replace h := ite_t hc9 h
      refine V.iload_n d_Cl_payHour_49 rfl 3 rfl ?_
      cases h
      exact V.iret rfl d_Cl_payHour_50 (hR _ _ hg)
    · replace h := ite_f hc9 h
      refine V.aload_n d_Cl_payHour_12 rfl 0 rfl ?_
      refine V.getR (r := 64) ok_Cl fl_Cl_9 (by decide) (by decide) ly_63 rfl d_Cl_payHour_13 ?_
      refine V.iload_n d_Cl_payHour_16 rfl 2 rfl ?_
      refine V.bipush (v := 6) d_Cl_payHour_17 (by decide) ?_
      refine V.imul d_Cl_payHour_19 ?_
      refine V.iload d_Cl_payHour_20 4 rfl ?_
      refine V.iadd d_Cl_payHour_22 ?_
      obtain ⟨gq, h⟩ := grd_e h
      refine V.ra (by decide) ly_64 (inb_e gq) rfl d_Cl_payHour_23 ?_
      obtain ⟨v24, e_v24, h⟩ := letv_e h
      refine V.topI e_v24 ?_
      refine V.istore (lv' := [(5, .int v24), (0, rf Z 63), (1, rf Z 19), (2, .int a2), (3, .int x3), (4, .int x4)]) d_Cl_payHour_24 (by decide) rfl ?_
      refine V.aload_n d_Cl_payHour_26 rfl 2 rfl ?_
      refine V.getR (r := 25) ok_To fl_Cl_61 (by decide) (by decide) ly_19 rfl d_Cl_payHour_27 ?_
      refine V.iload d_Cl_payHour_30 5 rfl ?_
      refine V.dup2 d_Cl_payHour_32 rfl rfl ?_
      obtain ⟨gq, h⟩ := grd_e h
      refine V.ra (by decide) ly_25 (inb_e gq) rfl d_Cl_payHour_33 ?_
      refine V.iload d_Cl_payHour_34 0 rfl ?_
      refine V.iadd d_Cl_payHour_36 ?_
      obtain ⟨gq, h⟩ := grd_e h
      obtain ⟨σ37, e_σ37, h⟩ := letv_e h
      refine V.wa (by decide) ly_25 (inb_e gq) rfl d_Cl_payHour_37 e_σ37 ?_
      refine V.iload_n d_Cl_payHour_38 rfl 4 rfl ?_
      refine V.iload d_Cl_payHour_39 0 rfl ?_
      refine V.iadd d_Cl_payHour_41 ?_
      obtain ⟨v42, e_v42, h⟩ := letv_e h
      refine V.topI e_v42 ?_
      refine V.istore_n (lv' := [(3, .int v42), (5, .int v24), (0, rf Z 63), (1, rf Z 19), (2, .int a2), (4, .int x4)]) d_Cl_payHour_42 rfl (by decide) rfl ?_
      obtain ⟨v43, e_v43, h⟩ := letv_e h
      refine V.iinc (v := v43) (lv' := [(4, .int v43), (3, .int v42), (5, .int v24), (0, rf Z 63), (1, rf Z 19), (2, .int a2)]) d_Cl_payHour_43 5 rfl (by rw [e_v43]; rfl) (by decide) rfl ?_
      refine V.goto (tgt := 5) d_Cl_payHour_46 (by decide) ?_
      exact V.pick [3, 4, 5, 1, 0] rfl (ih _ _ _ _ h hg)
def f_Cl_payHour (N : Nat) (σ : Mem) (a2 : Int32) : Option (Int32 × Mem) :=
  L_Cl_payHour_l5 N a2 N 0 0 σ
set_option maxHeartbeats 4000000 in
set_option maxRecDepth 20000 in
theorem c_Cl_payHour (Z : ZX) {N : Nat} {σ : Mem} {a2 : Int32} {r : Int32} {σ' : Mem} (h : f_Cl_payHour N σ a2 = some (r, σ')) : CI Z 0 m_Cl_payHour [rf Z 63, rf Z 19, .int a2] σ r σ' := by
  refine Ct.of (by decide +kernel) (Nat.le_of_ble_eq_true rfl) (fun Y => ?_)
  show V (mkB Z) Y m_Cl_payHour 0 (QP (mkB Z) Y nC 0 0 (fun v t => v = some (.int r) ∧ t = σ')) 0 0 nC σ 0 [(0, rf Z 63), (1, rf Z 19), (2, .int a2)] []
  unfold f_Cl_payHour at h
  refine V.iconst (v := 0) d_Cl_payHour_0 (by decide) ?_
  refine V.istore_n (lv' := [(3, .int 0), (0, rf Z 63), (1, rf Z 19), (2, .int a2)]) d_Cl_payHour_1 rfl (by decide) rfl ?_
  refine V.iconst (v := 0) d_Cl_payHour_2 (by decide) ?_
  refine V.istore (lv' := [(4, .int 0), (3, .int 0), (0, rf Z 63), (1, rf Z 19), (2, .int a2)]) d_Cl_payHour_3 (by decide) rfl ?_
  refine V.pick [2, 3, 4, 1, 0] rfl (cL_Cl_payHour_l5 Z (Good := fun z => z = _) (fun r5v r5m he => ?_) N _ _ _ _ h rfl)
  · cases he
    exact ⟨rfl, rfl⟩
abbrev m_Cl_drawDays : MI := (⟨"ShadeTown$Clouds", "drawDays", "(LShadeTown$Day;LShadeTown$Town;I)I"⟩, prog_2_method_2_code, 7, (Option.some Jvm.ClassFile.FieldType.int))
theorem d_Cl_drawDays_0 : decode prog_2_method_2_code 0 = .ok (.aload_n 0, 1) := by decide +kernel
theorem d_Cl_drawDays_1 : decode prog_2_method_2_code 1 = .ok (.getfield 9, 3) := by decide +kernel
theorem d_Cl_drawDays_4 : decode prog_2_method_2_code 4 = .ok (.iconst 0, 1) := by decide +kernel
theorem d_Cl_drawDays_5 : decode prog_2_method_2_code 5 = .ok (.invokestatic 15, 3) := by decide +kernel
theorem lk_Cl_15 : Cond.methodLink "ShadeTown$Clouds" 15 ⟨"java/util/Arrays", "fill", "([II)V"⟩ ∈ tblG := atG 1256 (by decide +kernel) rfl
theorem d_Cl_drawDays_8 : decode prog_2_method_2_code 8 = .ok (.iconst 0, 1) := by decide +kernel
theorem d_Cl_drawDays_9 : decode prog_2_method_2_code 9 = .ok (.istore 4, 2) := by decide +kernel
theorem d_Cl_drawDays_11 : decode prog_2_method_2_code 11 = .ok (.iload 4, 2) := by decide +kernel
theorem d_Cl_drawDays_13 : decode prog_2_method_2_code 13 = .ok (.bipush 24, 2) := by decide +kernel
theorem d_Cl_drawDays_18 : decode prog_2_method_2_code 18 = .ok (.aload_n 1, 1) := by decide +kernel
theorem d_Cl_drawDays_19 : decode prog_2_method_2_code 19 = .ok (.iload 4, 2) := by decide +kernel
theorem d_Cl_drawDays_21 : decode prog_2_method_2_code 21 = .ok (.invokevirtual 21, 3) := by decide +kernel
theorem lk_Cl_21 : Cond.methodLink "ShadeTown$Clouds" 21 ⟨"ShadeTown$Day", "isUp", "(I)Z"⟩ ∈ tblG := atG 1257 (by decide +kernel) rfl
theorem d_Cl_drawDays_27 : decode prog_2_method_2_code 27 = .ok (.aload_n 0, 1) := by decide +kernel
theorem d_Cl_drawDays_28 : decode prog_2_method_2_code 28 = .ok (.aload_n 1, 1) := by decide +kernel
theorem d_Cl_drawDays_29 : decode prog_2_method_2_code 29 = .ok (.aload_n 2, 1) := by decide +kernel
theorem d_Cl_drawDays_30 : decode prog_2_method_2_code 30 = .ok (.iload 4, 2) := by decide +kernel
theorem d_Cl_drawDays_32 : decode prog_2_method_2_code 32 = .ok (.invokevirtual 27, 3) := by decide +kernel
theorem k_Cl_bringHour : MOk m_Cl_bringHour 3 ∧ IOk m_Cl_bringHour := ⟨⟨atG 1261 (by decide +kernel) rfl, atG 121 (by decide +kernel) rfl, ⟨by decide, by decide⟩, by decide +kernel, by decide⟩, atG 1260 (by decide +kernel) rfl, atG 40 (by decide +kernel) rfl⟩
theorem lk_Cl_27 : Cond.methodLink "ShadeTown$Clouds" 27 ⟨"ShadeTown$Clouds", "bringHour", "(LShadeTown$Day;LShadeTown$Town;I)V"⟩ ∈ tblG := atG 1258 (by decide +kernel) rfl
theorem d_Cl_drawDays_24 : decode prog_2_method_2_code 24 = .ok (.ifCond .eq 11, 3) := by decide +kernel
theorem d_Cl_drawDays_35 : decode prog_2_method_2_code 35 = .ok (.iinc 4 1, 3) := by decide +kernel
theorem d_Cl_drawDays_38 : decode prog_2_method_2_code 38 = .ok (.goto (-27), 3) := by decide +kernel
theorem d_Cl_drawDays_15 : decode prog_2_method_2_code 15 = .ok (.if_icmp .ge 26, 3) := by decide +kernel
theorem d_Cl_drawDays_41 : decode prog_2_method_2_code 41 = .ok (.iconst 0, 1) := by decide +kernel
theorem d_Cl_drawDays_42 : decode prog_2_method_2_code 42 = .ok (.istore 4, 2) := by decide +kernel
theorem d_Cl_drawDays_44 : decode prog_2_method_2_code 44 = .ok (.iconst 0, 1) := by decide +kernel
theorem d_Cl_drawDays_45 : decode prog_2_method_2_code 45 = .ok (.istore 5, 2) := by decide +kernel
theorem d_Cl_drawDays_47 : decode prog_2_method_2_code 47 = .ok (.iload 5, 2) := by decide +kernel
theorem d_Cl_drawDays_49 : decode prog_2_method_2_code 49 = .ok (.iload_n 3, 1) := by decide +kernel
theorem d_Cl_drawDays_50 : decode prog_2_method_2_code 50 = .ok (.bipush 24, 2) := by decide +kernel
theorem d_Cl_drawDays_52 : decode prog_2_method_2_code 52 = .ok (.imul, 1) := by decide +kernel
theorem d_Cl_drawDays_125 : decode prog_2_method_2_code 125 = .ok (.iload 4, 2) := by decide +kernel
theorem d_Cl_drawDays_127 : decode prog_2_method_2_code 127 = .ok (.ireturn, 1) := by decide +kernel
theorem d_Cl_drawDays_56 : decode prog_2_method_2_code 56 = .ok (.aload_n 2, 1) := by decide +kernel
theorem d_Cl_drawDays_57 : decode prog_2_method_2_code 57 = .ok (.sipush 25173, 3) := by decide +kernel
theorem d_Cl_drawDays_60 : decode prog_2_method_2_code 60 = .ok (.aload_n 2, 1) := by decide +kernel
theorem fl_Cl_31 : FL "ShadeTown$Clouds" 31 T_To 9 := atG 243 (by decide +kernel) rfl
theorem d_Cl_drawDays_61 : decode prog_2_method_2_code 61 = .ok (.getfield 31, 3) := by decide +kernel
theorem d_Cl_drawDays_64 : decode prog_2_method_2_code 64 = .ok (.imul, 1) := by decide +kernel
theorem d_Cl_drawDays_65 : decode prog_2_method_2_code 65 = .ok (.sipush 13849, 3) := by decide +kernel
theorem d_Cl_drawDays_68 : decode prog_2_method_2_code 68 = .ok (.iadd, 1) := by decide +kernel
theorem kc_Cl_37 : Cond.constant "ShadeTown$Clouds" 37 (65536) ∈ tblG := atG 1265 (by decide +kernel) rfl
theorem d_Cl_drawDays_69 : decode prog_2_method_2_code 69 = .ok (.ldc 37, 2) := by decide +kernel
theorem d_Cl_drawDays_71 : decode prog_2_method_2_code 71 = .ok (.irem, 1) := by decide +kernel
theorem d_Cl_drawDays_72 : decode prog_2_method_2_code 72 = .ok (.putfield 31, 3) := by decide +kernel
theorem d_Cl_drawDays_75 : decode prog_2_method_2_code 75 = .ok (.iload 5, 2) := by decide +kernel
theorem d_Cl_drawDays_77 : decode prog_2_method_2_code 77 = .ok (.bipush 24, 2) := by decide +kernel
theorem d_Cl_drawDays_79 : decode prog_2_method_2_code 79 = .ok (.irem, 1) := by decide +kernel
theorem d_Cl_drawDays_80 : decode prog_2_method_2_code 80 = .ok (.istore 6, 2) := by decide +kernel
theorem d_Cl_drawDays_82 : decode prog_2_method_2_code 82 = .ok (.aload_n 1, 1) := by decide +kernel
theorem d_Cl_drawDays_83 : decode prog_2_method_2_code 83 = .ok (.iload 6, 2) := by decide +kernel
theorem d_Cl_drawDays_85 : decode prog_2_method_2_code 85 = .ok (.invokevirtual 21, 3) := by decide +kernel
theorem d_Cl_drawDays_91 : decode prog_2_method_2_code 91 = .ok (.aload_n 2, 1) := by decide +kernel
theorem d_Cl_drawDays_92 : decode prog_2_method_2_code 92 = .ok (.getfield 31, 3) := by decide +kernel
theorem d_Cl_drawDays_95 : decode prog_2_method_2_code 95 = .ok (.bipush 10, 2) := by decide +kernel
theorem d_Cl_drawDays_97 : decode prog_2_method_2_code 97 = .ok (.irem, 1) := by decide +kernel
theorem d_Cl_drawDays_98 : decode prog_2_method_2_code 98 = .ok (.aload_n 1, 1) := by decide +kernel
theorem d_Cl_drawDays_99 : decode prog_2_method_2_code 99 = .ok (.iload 6, 2) := by decide +kernel
theorem d_Cl_drawDays_101 : decode prog_2_method_2_code 101 = .ok (.invokevirtual 38, 3) := by decide +kernel
theorem lk_Cl_38 : Cond.methodLink "ShadeTown$Clouds" 38 ⟨"ShadeTown$Day", "cloudAt", "(I)I"⟩ ∈ tblG := atG 1266 (by decide +kernel) rfl
theorem d_Cl_drawDays_107 : decode prog_2_method_2_code 107 = .ok (.iload 4, 2) := by decide +kernel
theorem d_Cl_drawDays_109 : decode prog_2_method_2_code 109 = .ok (.aload_n 0, 1) := by decide +kernel
theorem d_Cl_drawDays_110 : decode prog_2_method_2_code 110 = .ok (.aload_n 2, 1) := by decide +kernel
theorem d_Cl_drawDays_111 : decode prog_2_method_2_code 111 = .ok (.iload 6, 2) := by decide +kernel
theorem d_Cl_drawDays_113 : decode prog_2_method_2_code 113 = .ok (.invokevirtual 42, 3) := by decide +kernel
theorem k_Cl_payHour : MOk m_Cl_payHour 2 ∧ IOk m_Cl_payHour := ⟨⟨atG 1270 (by decide +kernel) rfl, atG 121 (by decide +kernel) rfl, ⟨by decide, by decide⟩, by decide +kernel, by decide⟩, atG 1269 (by decide +kernel) rfl, atG 41 (by decide +kernel) rfl⟩
theorem lk_Cl_42 : Cond.methodLink "ShadeTown$Clouds" 42 ⟨"ShadeTown$Clouds", "payHour", "(LShadeTown$Town;I)I"⟩ ∈ tblG := atG 1267 (by decide +kernel) rfl
theorem d_Cl_drawDays_116 : decode prog_2_method_2_code 116 = .ok (.iadd, 1) := by decide +kernel
theorem d_Cl_drawDays_117 : decode prog_2_method_2_code 117 = .ok (.istore 4, 2) := by decide +kernel
theorem d_Cl_drawDays_104 : decode prog_2_method_2_code 104 = .ok (.if_icmp .lt 15, 3) := by decide +kernel
theorem d_Cl_drawDays_88 : decode prog_2_method_2_code 88 = .ok (.ifCond .eq 31, 3) := by decide +kernel
theorem d_Cl_drawDays_119 : decode prog_2_method_2_code 119 = .ok (.iinc 5 1, 3) := by decide +kernel
theorem d_Cl_drawDays_122 : decode prog_2_method_2_code 122 = .ok (.goto (-75), 3) := by decide +kernel
theorem d_Cl_drawDays_53 : decode prog_2_method_2_code 53 = .ok (.if_icmp .ge 72, 3) := by decide +kernel
def B_Cl_drawDays_l11 (N : Nat) (a3 : Int32) (rec : Int32 → Mem → Option (Mem)) (x4 : Int32) (σ : Mem) : Option (Mem) :=
  if 24 ≤ x4 then
    (some σ)
  else
    (bnd1 (f_Da_isUp σ x4) fun r21 =>
    bnd1 ((
      if r21 = 0 then
        (some σ)
      else
        (bnd1 (f_Cl_bringHour N σ x4) fun σ32 =>
        some σ32)) : Option (Mem)) fun σ24_ =>
    letv (x4 + 1) fun v35 =>
    rec v35 σ24_)
def L_Cl_drawDays_l11 (N : Nat) (a3 : Int32) : Nat → Int32 → Mem → Option (Mem)
  | 0, _, _ => none
  | k + 1, x4, σ => B_Cl_drawDays_l11 N a3 (L_Cl_drawDays_l11 N a3 k) x4 σ
set_option maxHeartbeats 4000000 in
set_option maxRecDepth 20000 in
theorem cL_Cl_drawDays_l11 (Z : ZX) {Y : YX} {Q : State → Prop} {N : Nat} {a3 : Int32} {Good : Mem → Prop} (hE : ∀ (σe : Mem), Good σe → V (mkB Z) Y m_Cl_drawDays 5 Q 0 0 nC σe 41 [(0, rf Z 63), (1, rf Z 33), (2, rf Z 19), (3, .int a3)] []) : ∀ (k : Nat) (x4 : Int32) (σ : Mem) (res : Mem), L_Cl_drawDays_l11 N a3 k x4 σ = some res → Good res → V (mkB Z) Y m_Cl_drawDays 5 Q 0 0 nC σ 11 [(0, rf Z 63), (1, rf Z 33), (2, rf Z 19), (3, .int a3), (4, .int x4)] [] := by
  intro k
  induction k with
  | zero => intro x4 σ res h; cases h
  | succ k ih =>
    intro x4 σ res h hg
    replace h : B_Cl_drawDays_l11 N a3 (L_Cl_drawDays_l11 N a3 k) x4 σ = some res := h
    unfold B_Cl_drawDays_l11 at h
    refine V.iload d_Cl_drawDays_11 4 rfl ?_
    refine V.bipush (v := 24) d_Cl_drawDays_13 (by decide) ?_
    refine V.icmp_ge (tgt := 41) d_Cl_drawDays_15 (by decide) (fun hc15 => ?_) (fun hc15 => ?_)
    · replace h := ite_t hc15 h
      cases h
      exact V.pick [0, 1, 2, 3] rfl (hE _ hg)
    · replace h := ite_f hc15 h
      refine V.aload_n d_Cl_drawDays_18 rfl 1 rfl ?_
      refine V.iload d_Cl_drawDays_19 4 rfl ?_
      obtain ⟨r21, h1, h⟩ := bnd1_e h
      refine V.vI (as := [.int x4]) (st := []) (c_Da_isUp Z h1) k_Da_isUp lk_Cl_21 (by decide) rfl (by decide) ly_33 ok_Da.1 rfl (Nat.le_of_ble_eq_true rfl) d_Cl_drawDays_21 ?_
      obtain ⟨s24, h1, h⟩ := bnd1_e h
      have J24_35 : ∀ (σ24_ : Mem), s24 = σ24_ → V (mkB Z) Y m_Cl_drawDays 5 Q 0 0 nC σ24_ 35 [(0, rf Z 63), (1, rf Z 33), (2, rf Z 19), (3, .int a3), (4, .int x4)] [] := by
        intro σ24_ he
        rw [he] at h
        obtain ⟨v35, e_v35, h⟩ := letv_e h
        refine V.iinc (v := v35) (lv' := [(4, .int v35), (0, rf Z 63), (1, rf Z 33), (2, rf Z 19), (3, .int a3)]) d_Cl_drawDays_35 4 rfl (by rw [e_v35]; rfl) (by decide) rfl ?_
        refine V.goto (tgt := 11) d_Cl_drawDays_38 (by decide) ?_
        exact V.pick [1, 2, 3, 4, 0] rfl (ih _ _ _ h hg)
      replace h := h1
      refine V.if_eq (tgt := 35) d_Cl_drawDays_24 (by decide) (fun hc24 => ?_) (fun hc24 => ?_)
      · replace h := ite_t hc24 h
        exact V.pick [0, 1, 2, 3, 4] rfl (J24_35 _ (Option.some.inj h).symm)
      · replace h := ite_f hc24 h
        refine V.aload_n d_Cl_drawDays_27 rfl 0 rfl ?_
        refine V.aload_n d_Cl_drawDays_28 rfl 1 rfl ?_
        refine V.aload_n d_Cl_drawDays_29 rfl 2 rfl ?_
        refine V.iload d_Cl_drawDays_30 4 rfl ?_
        obtain ⟨σ32, h1, h⟩ := bnd1_e h
        refine V.vN (as := [rf Z 33, rf Z 19, .int x4]) (st := []) (c_Cl_bringHour Z h1) k_Cl_bringHour lk_Cl_27 (by decide) rfl (by decide) ly_63 ok_Cl.1 rfl (Nat.le_of_ble_eq_true rfl) d_Cl_drawDays_32 ?_
        exact V.pick [0, 1, 2, 3, 4] rfl (J24_35 _ (Option.some.inj h).symm)
def B_Cl_drawDays_l47 (N : Nat) (a3 : Int32) (rec : Int32 → Int32 → Mem → Option (Int32 × Mem)) (x4 : Int32) (x5 : Int32) (σ : Mem) : Option (Int32 × Mem) :=
  if (a3 * 24) ≤ x5 then
    (some (x4, σ))
  else
    (letv (sI σ 19 9 (((25173 * (mI σ 19 9)) + 13849) - ((25173 * (mI σ 19 9)) + 13849) / 65536 * 65536)) fun σ72 =>
    letv (x5 - x5 / 24 * 24) fun v80 =>
    bnd1 (f_Da_isUp σ72 v80) fun r85 =>
    bnd1 ((
      if r85 = 0 then
        (some (x4, σ72))
      else
        (bnd1 (f_Da_cloudAt σ72 v80) fun r101 =>
        if (mI σ72 19 9) - (mI σ72 19 9) / 10 * 10 < r101 then
          (some (x4, σ72))
        else
          (bnd2 (f_Cl_payHour N σ72 v80) fun r113 σ113 =>
          letv (x4 + r113) fun v117 =>
          some (v117, σ113)))) : Option (Int32 × Mem)) fun s88 =>
    q2 s88 fun y88_4 σ88_ =>
    letv (x5 + 1) fun v119 =>
    rec y88_4 v119 σ88_)
def L_Cl_drawDays_l47 (N : Nat) (a3 : Int32) : Nat → Int32 → Int32 → Mem → Option (Int32 × Mem)
  | 0, _, _, _ => none
  | k + 1, x4, x5, σ => B_Cl_drawDays_l47 N a3 (L_Cl_drawDays_l47 N a3 k) x4 x5 σ
set_option maxHeartbeats 4000000 in
set_option maxRecDepth 20000 in
theorem cL_Cl_drawDays_l47 (Z : ZX) {Y : YX} {post : Option Value → Mem → Prop} {N : Nat} {a3 : Int32} {Good : Int32 × Mem → Prop} (hR : ∀ (v : Int32) (σr : Mem), Good (v, σr) → post (some (.int v)) σr) : ∀ (k : Nat) (x4 : Int32) (x5 : Int32) (σ : Mem) (res : Int32 × Mem), L_Cl_drawDays_l47 N a3 k x4 x5 σ = some res → Good res → V (mkB Z) Y m_Cl_drawDays 5 (QP (mkB Z) Y nC 0 0 post) 0 0 nC σ 47 [(0, rf Z 63), (1, rf Z 33), (2, rf Z 19), (3, .int a3), (4, .int x4), (5, .int x5)] [] := by
  intro k
  induction k with
  | zero => intro x4 x5 σ res h; cases h
  | succ k ih =>
    intro x4 x5 σ res h hg
    replace h : B_Cl_drawDays_l47 N a3 (L_Cl_drawDays_l47 N a3 k) x4 x5 σ = some res := h
    unfold B_Cl_drawDays_l47 at h
    refine V.iload d_Cl_drawDays_47 5 rfl ?_
    refine V.iload_n d_Cl_drawDays_49 rfl 3 rfl ?_
    refine V.bipush (v := 24) d_Cl_drawDays_50 (by decide) ?_
    refine V.imul d_Cl_drawDays_52 ?_
    refine V.icmp_ge (tgt := 125) d_Cl_drawDays_53 (by decide) (fun hc53 => ?_) (fun hc53 => ?_)
    · replace h := ite_t hc53 h
      refine V.iload d_Cl_drawDays_125 4 rfl ?_
      cases h
      exact V.iret rfl d_Cl_drawDays_127 (hR _ _ hg)
    · replace h := ite_f hc53 h
      refine V.aload_n d_Cl_drawDays_56 rfl 2 rfl ?_
      refine V.sipush (v := 25173) d_Cl_drawDays_57 (by decide) ?_
      refine V.aload_n d_Cl_drawDays_60 rfl 2 rfl ?_
      refine V.getI ok_To fl_Cl_31 (by decide) (by decide) ly_19 rfl d_Cl_drawDays_61 ?_
      refine V.imul d_Cl_drawDays_64 ?_
      refine V.sipush (v := 13849) d_Cl_drawDays_65 (by decide) ?_
      refine V.iadd d_Cl_drawDays_68 ?_
      refine V.ldc (v := 65536) kc_Cl_37 d_Cl_drawDays_69 ?_
      refine V.irem d_Cl_drawDays_71 (by decide) ?_
      obtain ⟨σ72, e_σ72, h⟩ := letv_e h
      refine V.putI ok_To fl_Cl_31 (by decide) (by decide) ly_19 rfl rfl rfl rfl d_Cl_drawDays_72 (V.mem e_σ72 ?_)
      refine V.iload d_Cl_drawDays_75 5 rfl ?_
      refine V.bipush (v := 24) d_Cl_drawDays_77 (by decide) ?_
      refine V.irem d_Cl_drawDays_79 (by decide) ?_
      obtain ⟨v80, e_v80, h⟩ := letv_e h
      refine V.topI e_v80 ?_
      refine V.istore (lv' := [(6, .int v80), (0, rf Z 63), (1, rf Z 33), (2, rf Z 19), (3, .int a3), (4, .int x4), (5, .int x5)]) d_Cl_drawDays_80 (by decide) rfl ?_
      refine V.aload_n d_Cl_drawDays_82 rfl 2 rfl ?_
      refine V.iload d_Cl_drawDays_83 0 rfl ?_
      obtain ⟨r85, h1, h⟩ := bnd1_e h
      refine V.vI (as := [.int v80]) (st := []) (c_Da_isUp Z h1) k_Da_isUp lk_Cl_21 (by decide) rfl (by decide) ly_33 ok_Da.1 rfl (Nat.le_of_ble_eq_true rfl) d_Cl_drawDays_85 ?_
      obtain ⟨s88, h1, h⟩ := bnd1_e h
      have J88_119 : ∀ (y88_4 : Int32) (σ88_ : Mem), s88 = (y88_4, σ88_) → V (mkB Z) Y m_Cl_drawDays 5 (QP (mkB Z) Y nC 0 0 post) 0 0 nC σ88_ 119 [(0, rf Z 63), (1, rf Z 33), (2, rf Z 19), (3, .int a3), (4, .int y88_4), (5, .int x5)] [] := by
        intro y88_4 σ88_ he
        rw [he] at h
        replace h := q2_e h
        obtain ⟨v119, e_v119, h⟩ := letv_e h
        refine V.iinc (v := v119) (lv' := [(5, .int v119), (0, rf Z 63), (1, rf Z 33), (2, rf Z 19), (3, .int a3), (4, .int y88_4)]) d_Cl_drawDays_119 5 rfl (by rw [e_v119]; rfl) (by decide) rfl ?_
        refine V.goto (tgt := 47) d_Cl_drawDays_122 (by decide) ?_
        exact V.pick [1, 2, 3, 4, 5, 0] rfl (ih _ _ _ _ h hg)
      replace h := h1
      refine V.if_eq (tgt := 119) d_Cl_drawDays_88 (by decide) (fun hc88 => ?_) (fun hc88 => ?_)
      · replace h := ite_t hc88 h
        exact V.pick [1, 2, 3, 4, 5, 6] rfl (J88_119 _ _ (Option.some.inj h).symm)
      · replace h := ite_f hc88 h
        refine V.aload_n d_Cl_drawDays_91 rfl 3 rfl ?_
        refine V.getI ok_To fl_Cl_31 (by decide) (by decide) ly_19 rfl d_Cl_drawDays_92 ?_
        refine V.bipush (v := 10) d_Cl_drawDays_95 (by decide) ?_
        refine V.irem d_Cl_drawDays_97 (by decide) ?_
        refine V.aload_n d_Cl_drawDays_98 rfl 2 rfl ?_
        refine V.iload d_Cl_drawDays_99 0 rfl ?_
        obtain ⟨r101, h1, h⟩ := bnd1_e h
        refine V.vI (as := [.int v80]) (st := [.int ((mI σ72 19 9) - (mI σ72 19 9) / 10 * 10)]) (c_Da_cloudAt Z h1) k_Da_cloudAt lk_Cl_38 (by decide) rfl (by decide) ly_33 ok_Da.1 rfl (Nat.le_of_ble_eq_true rfl) d_Cl_drawDays_101 ?_
        refine V.icmp_lt (tgt := 119) d_Cl_drawDays_104 (by decide) (fun hc104 => ?_) (fun hc104 => ?_)
        · replace h := ite_t hc104 h
          exact V.pick [1, 2, 3, 4, 5, 6] rfl (J88_119 _ _ (Option.some.inj h).symm)
        · replace h := ite_f hc104 h
          refine V.iload d_Cl_drawDays_107 5 rfl ?_
          refine V.aload_n d_Cl_drawDays_109 rfl 1 rfl ?_
          refine V.aload_n d_Cl_drawDays_110 rfl 3 rfl ?_
          refine V.iload d_Cl_drawDays_111 0 rfl ?_
          obtain ⟨r113, σ113, h1, h⟩ := bnd2_e h
          refine V.vI (as := [rf Z 19, .int v80]) (st := [.int x4]) (c_Cl_payHour Z h1) k_Cl_payHour lk_Cl_42 (by decide) rfl (by decide) ly_63 ok_Cl.1 rfl (Nat.le_of_ble_eq_true rfl) d_Cl_drawDays_113 ?_
          refine V.iadd d_Cl_drawDays_116 ?_
          obtain ⟨v117, e_v117, h⟩ := letv_e h
          refine V.topI e_v117 ?_
          refine V.istore (lv' := [(4, .int v117), (6, .int v80), (0, rf Z 63), (1, rf Z 33), (2, rf Z 19), (3, .int a3), (5, .int x5)]) d_Cl_drawDays_117 (by decide) rfl ?_
          exact V.pick [2, 3, 4, 5, 0, 6] rfl (J88_119 _ _ (Option.some.inj h).symm)
def f_Cl_drawDays (N : Nat) (σ : Mem) (a3 : Int32) : Option (Int32 × Mem) :=
  bnd1 (f_JA_fill_53178 N σ 64 144 0) fun σ5 =>
  bnd1 (L_Cl_drawDays_l11 N a3 N 0 σ5) fun σ11_ =>
  L_Cl_drawDays_l47 N a3 N 0 0 σ11_
set_option maxHeartbeats 4000000 in
set_option maxRecDepth 20000 in
theorem c_Cl_drawDays (Z : ZX) {N : Nat} {σ : Mem} {a3 : Int32} {r : Int32} {σ' : Mem} (h : f_Cl_drawDays N σ a3 = some (r, σ')) : CI Z 5 m_Cl_drawDays [rf Z 63, rf Z 33, rf Z 19, .int a3] σ r σ' := by
  refine Ct.of (by decide +kernel) (Nat.le_of_ble_eq_true rfl) (fun Y => ?_)
  show V (mkB Z) Y m_Cl_drawDays 5 (QP (mkB Z) Y nC 0 0 (fun v t => v = some (.int r) ∧ t = σ')) 0 0 nC σ 0 [(0, rf Z 63), (1, rf Z 33), (2, rf Z 19), (3, .int a3)] []
  unfold f_Cl_drawDays at h
  refine V.aload_n d_Cl_drawDays_0 rfl 0 rfl ?_
  refine V.getR (r := 64) ok_Cl fl_Cl_9 (by decide) (by decide) ly_63 rfl d_Cl_drawDays_1 ?_
  refine V.iconst (v := 0) d_Cl_drawDays_4 (by decide) ?_
  obtain ⟨σ5, h1, h⟩ := bnd1_e h
  refine V.sN (as := [rf Z 64, .int 0]) (st := []) (c_JA_fill_53178 Z (by decide) ly_64 h1) k_JA_fill_53178 lk_Cl_15 (by decide) rfl rfl (Nat.le_of_ble_eq_true rfl) d_Cl_drawDays_5 ?_
  refine V.iconst (v := 0) d_Cl_drawDays_8 (by decide) ?_
  refine V.istore (lv' := [(4, .int 0), (0, rf Z 63), (1, rf Z 33), (2, rf Z 19), (3, .int a3)]) d_Cl_drawDays_9 (by decide) rfl ?_
  obtain ⟨x11_, h1, h⟩ := bnd1_e h
  refine V.pick [1, 2, 3, 4, 0] rfl (cL_Cl_drawDays_l11 Z (Good := fun z => x11_ = z) (fun σ11_ he => ?_) N _ _ _ h1 rfl)
  · rw [he] at h
    refine V.iconst (v := 0) d_Cl_drawDays_41 (by decide) ?_
    refine V.istore (lv' := [(4, .int 0), (0, rf Z 63), (1, rf Z 33), (2, rf Z 19), (3, .int a3)]) d_Cl_drawDays_42 (by decide) rfl ?_
    refine V.iconst (v := 0) d_Cl_drawDays_44 (by decide) ?_
    refine V.istore (lv' := [(5, .int 0), (4, .int 0), (0, rf Z 63), (1, rf Z 33), (2, rf Z 19), (3, .int a3)]) d_Cl_drawDays_45 (by decide) rfl ?_
    refine V.pick [2, 3, 4, 5, 1, 0] rfl (cL_Cl_drawDays_l47 Z (Good := fun z => z = _) (fun r47v r47m he => ?_) N _ _ _ _ h rfl)
    · cases he
      exact ⟨rfl, rfl⟩
abbrev m_Sh_days : MI := (⟨"ShadeTown", "days", "(I)I"⟩, prog_1_method_31_code, 2, (Option.some Jvm.ClassFile.FieldType.int))
theorem d_Sh_days_0 : decode prog_1_method_31_code 0 = .ok (.iload_n 1, 1) := by decide +kernel
theorem d_Sh_days_1 : decode prog_1_method_31_code 1 = .ok (.iconst 1, 1) := by decide +kernel
theorem d_Sh_days_11 : decode prog_1_method_31_code 11 = .ok (.iconst (-1), 1) := by decide +kernel
theorem d_Sh_days_12 : decode prog_1_method_31_code 12 = .ok (.ireturn, 1) := by decide +kernel
theorem d_Sh_days_5 : decode prog_1_method_31_code 5 = .ok (.iload_n 1, 1) := by decide +kernel
theorem d_Sh_days_6 : decode prog_1_method_31_code 6 = .ok (.bipush 30, 2) := by decide +kernel
theorem d_Sh_days_13 : decode prog_1_method_31_code 13 = .ok (.aload_n 0, 1) := by decide +kernel
theorem fl_Sh_89 : FL "ShadeTown" 89 T_Sh 12 := atG 431 (by decide +kernel) rfl
theorem d_Sh_days_14 : decode prog_1_method_31_code 14 = .ok (.getfield 89, 3) := by decide +kernel
theorem d_Sh_days_17 : decode prog_1_method_31_code 17 = .ok (.aload_n 0, 1) := by decide +kernel
theorem d_Sh_days_18 : decode prog_1_method_31_code 18 = .ok (.invokevirtual 181, 3) := by decide +kernel
theorem d_Sh_days_21 : decode prog_1_method_31_code 21 = .ok (.aload_n 0, 1) := by decide +kernel
theorem d_Sh_days_22 : decode prog_1_method_31_code 22 = .ok (.getfield 38, 3) := by decide +kernel
theorem d_Sh_days_25 : decode prog_1_method_31_code 25 = .ok (.iload_n 1, 1) := by decide +kernel
theorem d_Sh_days_26 : decode prog_1_method_31_code 26 = .ok (.invokevirtual 336, 3) := by decide +kernel
theorem k_Cl_drawDays : MOk m_Cl_drawDays 3 ∧ IOk m_Cl_drawDays := ⟨⟨atG 1255 (by decide +kernel) rfl, atG 121 (by decide +kernel) rfl, ⟨by decide, by decide⟩, by decide +kernel, by decide⟩, atG 1253 (by decide +kernel) rfl, atG 1254 (by decide +kernel) rfl⟩
theorem lk_Sh_336 : Cond.methodLink "ShadeTown" 336 ⟨"ShadeTown$Clouds", "drawDays", "(LShadeTown$Day;LShadeTown$Town;I)I"⟩ ∈ tblG := atG 1252 (by decide +kernel) rfl
theorem d_Sh_days_29 : decode prog_1_method_31_code 29 = .ok (.ireturn, 1) := by decide +kernel
theorem d_Sh_days_8 : decode prog_1_method_31_code 8 = .ok (.if_icmp .le 5, 3) := by decide +kernel
theorem d_Sh_days_2 : decode prog_1_method_31_code 2 = .ok (.if_icmp .lt 9, 3) := by decide +kernel
def f_Sh_days (N : Nat) (σ : Mem) (a1 : Int32) : Option (Int32 × Mem) :=
  if a1 < 1 then
    (some ((-1), σ))
  else
    (if a1 ≤ 30 then
      (bnd1 (f_Sh_today N σ) fun σ18 =>
      bnd2 (f_Cl_drawDays N σ18 a1) fun r26 σ26 =>
      some (r26, σ26))
    else
      (some ((-1), σ)))
set_option maxHeartbeats 4000000 in
set_option maxRecDepth 20000 in
theorem c_Sh_days (Z : ZX) {N : Nat} {σ : Mem} {a1 : Int32} {r : Int32} {σ' : Mem} (h : f_Sh_days N σ a1 = some (r, σ')) : CI Z 6 m_Sh_days [rf Z 0, .int a1] σ r σ' := by
  refine Ct.of (by decide +kernel) (Nat.le_of_ble_eq_true rfl) (fun Y => ?_)
  show V (mkB Z) Y m_Sh_days 6 (QP (mkB Z) Y nC 0 0 (fun v t => v = some (.int r) ∧ t = σ')) 0 0 nC σ 0 [(0, rf Z 0), (1, .int a1)] []
  unfold f_Sh_days at h
  refine V.iload_n d_Sh_days_0 rfl 1 rfl ?_
  refine V.iconst (v := 1) d_Sh_days_1 (by decide) ?_
  refine V.icmp_lt (tgt := 11) d_Sh_days_2 (by decide) (fun hc2 => ?_) (fun hc2 => ?_)
  · replace h := ite_t hc2 h
    refine V.iconst (v := (-1)) d_Sh_days_11 (by decide) ?_
    cases h
    exact V.iret rfl d_Sh_days_12 ⟨rfl, rfl⟩
  · replace h := ite_f hc2 h
    refine V.iload_n d_Sh_days_5 rfl 1 rfl ?_
    refine V.bipush (v := 30) d_Sh_days_6 (by decide) ?_
    refine V.icmp_le (tgt := 13) d_Sh_days_8 (by decide) (fun hc8 => ?_) (fun hc8 => ?_)
    · replace h := ite_t hc8 h
      refine V.aload_n d_Sh_days_13 rfl 0 rfl ?_
      refine V.getR (r := 63) ok_Sh fl_Sh_89 (by decide) (by decide) ly_0 rfl d_Sh_days_14 ?_
      refine V.aload_n d_Sh_days_17 rfl 0 rfl ?_
      obtain ⟨σ18, h1, h⟩ := bnd1_e h
      refine V.vA (as := []) (st := [rf Z 63]) (c_Sh_today Z h1) k_Sh_today lk_Sh_181 (by decide) rfl (by decide) ly_0 ok_Sh.1 rfl (Nat.le_of_ble_eq_true rfl) d_Sh_days_18 ?_
      refine V.aload_n d_Sh_days_21 rfl 0 rfl ?_
      refine V.getR (r := 19) ok_Sh fl_Sh_38 (by decide) (by decide) ly_0 rfl d_Sh_days_22 ?_
      refine V.iload_n d_Sh_days_25 rfl 1 rfl ?_
      obtain ⟨r26, σ26, h1, h⟩ := bnd2_e h
      refine V.vI (as := [rf Z 33, rf Z 19, .int a1]) (st := []) (c_Cl_drawDays Z h1) k_Cl_drawDays lk_Sh_336 (by decide) rfl (by decide) ly_63 ok_Cl.1 rfl (Nat.le_of_ble_eq_true rfl) d_Sh_days_26 ?_
      cases h
      exact V.iret rfl d_Sh_days_29 ⟨rfl, rfl⟩
    · replace h := ite_f hc8 h
      refine V.iconst (v := (-1)) d_Sh_days_11 (by decide) ?_
      cases h
      exact V.iret rfl d_Sh_days_12 ⟨rfl, rfl⟩
abbrev m_Sh_purse : MI := (⟨"ShadeTown", "purse", "(I)I"⟩, prog_1_method_32_code, 2, (Option.some Jvm.ClassFile.FieldType.int))
theorem d_Sh_purse_0 : decode prog_1_method_32_code 0 = .ok (.iload_n 1, 1) := by decide +kernel
theorem d_Sh_purse_1 : decode prog_1_method_32_code 1 = .ok (.invokestatic 123, 3) := by decide +kernel
theorem d_Sh_purse_19 : decode prog_1_method_32_code 19 = .ok (.iconst (-1), 1) := by decide +kernel
theorem d_Sh_purse_20 : decode prog_1_method_32_code 20 = .ok (.ireturn, 1) := by decide +kernel
theorem d_Sh_purse_7 : decode prog_1_method_32_code 7 = .ok (.aload_n 0, 1) := by decide +kernel
theorem d_Sh_purse_8 : decode prog_1_method_32_code 8 = .ok (.getfield 38, 3) := by decide +kernel
theorem fl_Sh_340 : FL "ShadeTown" 340 T_To 5 := atG 233 (by decide +kernel) rfl
theorem d_Sh_purse_11 : decode prog_1_method_32_code 11 = .ok (.getfield 340, 3) := by decide +kernel
theorem d_Sh_purse_14 : decode prog_1_method_32_code 14 = .ok (.iload_n 1, 1) := by decide +kernel
theorem d_Sh_purse_15 : decode prog_1_method_32_code 15 = .ok (.iaload, 1) := by decide +kernel
theorem d_Sh_purse_16 : decode prog_1_method_32_code 16 = .ok (.goto 4, 3) := by decide +kernel
theorem d_Sh_purse_4 : decode prog_1_method_32_code 4 = .ok (.ifCond .eq 15, 3) := by decide +kernel
def f_Sh_purse (σ : Mem) (a1 : Int32) : Option (Int32) :=
  bnd1 (f_Sh_isOwner a1) fun r1 =>
  if r1 = 0 then
    (some (-1))
  else
    (grd (inb a1 6) <|
    some (mI σ 25 (a1.toNatClampNeg)))
set_option maxHeartbeats 4000000 in
set_option maxRecDepth 20000 in
theorem c_Sh_purse (Z : ZX) {σ : Mem} {a1 : Int32} {r : Int32} (h : f_Sh_purse σ a1 = some r) : CI Z 1 m_Sh_purse [rf Z 0, .int a1] σ r σ := by
  refine Ct.of (by decide +kernel) (Nat.le_of_ble_eq_true rfl) (fun Y => ?_)
  show V (mkB Z) Y m_Sh_purse 1 (QP (mkB Z) Y nC 0 0 (fun v t => v = some (.int r) ∧ t = σ)) 0 0 nC σ 0 [(0, rf Z 0), (1, .int a1)] []
  unfold f_Sh_purse at h
  refine V.iload_n d_Sh_purse_0 rfl 1 rfl ?_
  obtain ⟨r1, h1, h⟩ := bnd1_e h
  refine V.sI (as := [.int a1]) (st := []) (c_Sh_isOwner Z h1) k_Sh_isOwner lk_Sh_123 (by decide) rfl rfl (Nat.le_of_ble_eq_true rfl) d_Sh_purse_1 ?_
  refine V.if_eq (tgt := 19) d_Sh_purse_4 (by decide) (fun hc4 => ?_) (fun hc4 => ?_)
  · replace h := ite_t hc4 h
    refine V.iconst (v := (-1)) d_Sh_purse_19 (by decide) ?_
    cases h
    exact V.iret rfl d_Sh_purse_20 ⟨rfl, rfl⟩
  · replace h := ite_f hc4 h
    refine V.aload_n d_Sh_purse_7 rfl 0 rfl ?_
    refine V.getR (r := 19) ok_Sh fl_Sh_38 (by decide) (by decide) ly_0 rfl d_Sh_purse_8 ?_
    refine V.getR (r := 25) ok_To fl_Sh_340 (by decide) (by decide) ly_19 rfl d_Sh_purse_11 ?_
    refine V.iload_n d_Sh_purse_14 rfl 1 rfl ?_
    obtain ⟨gq, h⟩ := grd_e h
    refine V.ra (by decide) ly_25 (inb_e gq) rfl d_Sh_purse_15 ?_
    refine V.goto (tgt := 20) d_Sh_purse_16 (by decide) ?_
    cases h
    exact V.iret rfl d_Sh_purse_20 ⟨rfl, rfl⟩
abbrev m_Sh_odds : MI := (⟨"ShadeTown", "odds", "(III)J"⟩, prog_1_method_33_code, 10, (Option.some Jvm.ClassFile.FieldType.long))
theorem d_Sh_odds_0 : decode prog_1_method_33_code 0 = .ok (.iload_n 1, 1) := by decide +kernel
theorem d_Sh_odds_1 : decode prog_1_method_33_code 1 = .ok (.iload_n 2, 1) := by decide +kernel
theorem d_Sh_odds_2 : decode prog_1_method_33_code 2 = .ok (.bipush 18, 2) := by decide +kernel
theorem d_Sh_odds_4 : decode prog_1_method_33_code 4 = .ok (.invokestatic 227, 3) := by decide +kernel
theorem d_Sh_odds_19 : decode prog_1_method_33_code 19 = .ok (.ldc2_w 207, 3) := by decide +kernel
theorem d_Sh_odds_22 : decode prog_1_method_33_code 22 = .ok (.lreturn, 1) := by decide +kernel
theorem d_Sh_odds_10 : decode prog_1_method_33_code 10 = .ok (.iload_n 3, 1) := by decide +kernel
theorem d_Sh_odds_14 : decode prog_1_method_33_code 14 = .ok (.iload_n 3, 1) := by decide +kernel
theorem d_Sh_odds_15 : decode prog_1_method_33_code 15 = .ok (.iconst 1, 1) := by decide +kernel
theorem d_Sh_odds_23 : decode prog_1_method_33_code 23 = .ok (.aload_n 0, 1) := by decide +kernel
theorem d_Sh_odds_24 : decode prog_1_method_33_code 24 = .ok (.invokevirtual 181, 3) := by decide +kernel
theorem d_Sh_odds_27 : decode prog_1_method_33_code 27 = .ok (.astore 4, 2) := by decide +kernel
theorem d_Sh_odds_29 : decode prog_1_method_33_code 29 = .ok (.lconst 1, 1) := by decide +kernel
theorem d_Sh_odds_30 : decode prog_1_method_33_code 30 = .ok (.lstore 5, 2) := by decide +kernel
theorem d_Sh_odds_32 : decode prog_1_method_33_code 32 = .ok (.lconst 1, 1) := by decide +kernel
theorem d_Sh_odds_33 : decode prog_1_method_33_code 33 = .ok (.lstore 7, 2) := by decide +kernel
theorem d_Sh_odds_35 : decode prog_1_method_33_code 35 = .ok (.iload_n 1, 1) := by decide +kernel
theorem d_Sh_odds_36 : decode prog_1_method_33_code 36 = .ok (.istore 9, 2) := by decide +kernel
theorem d_Sh_odds_38 : decode prog_1_method_33_code 38 = .ok (.iload 9, 2) := by decide +kernel
theorem d_Sh_odds_40 : decode prog_1_method_33_code 40 = .ok (.iload_n 2, 1) := by decide +kernel
theorem d_Sh_odds_84 : decode prog_1_method_33_code 84 = .ok (.lload 5, 2) := by decide +kernel
theorem d_Sh_odds_86 : decode prog_1_method_33_code 86 = .ok (.lload 7, 2) := by decide +kernel
theorem d_Sh_odds_88 : decode prog_1_method_33_code 88 = .ok (.iload_n 3, 1) := by decide +kernel
theorem d_Sh_odds_89 : decode prog_1_method_33_code 89 = .ok (.invokestatic 218, 3) := by decide +kernel
theorem d_Sh_odds_92 : decode prog_1_method_33_code 92 = .ok (.lreturn, 1) := by decide +kernel
theorem d_Sh_odds_44 : decode prog_1_method_33_code 44 = .ok (.aload 4, 2) := by decide +kernel
theorem d_Sh_odds_46 : decode prog_1_method_33_code 46 = .ok (.iload 9, 2) := by decide +kernel
theorem d_Sh_odds_48 : decode prog_1_method_33_code 48 = .ok (.invokevirtual 185, 3) := by decide +kernel
theorem d_Sh_odds_54 : decode prog_1_method_33_code 54 = .ok (.lload 5, 2) := by decide +kernel
theorem d_Sh_odds_56 : decode prog_1_method_33_code 56 = .ok (.bipush 10, 2) := by decide +kernel
theorem d_Sh_odds_58 : decode prog_1_method_33_code 58 = .ok (.aload 4, 2) := by decide +kernel
theorem d_Sh_odds_60 : decode prog_1_method_33_code 60 = .ok (.iload 9, 2) := by decide +kernel
theorem d_Sh_odds_62 : decode prog_1_method_33_code 62 = .ok (.invokevirtual 194, 3) := by decide +kernel
theorem d_Sh_odds_65 : decode prog_1_method_33_code 65 = .ok (.isub, 1) := by decide +kernel
theorem d_Sh_odds_66 : decode prog_1_method_33_code 66 = .ok (.i2l, 1) := by decide +kernel
theorem d_Sh_odds_67 : decode prog_1_method_33_code 67 = .ok (.lmul, 1) := by decide +kernel
theorem d_Sh_odds_68 : decode prog_1_method_33_code 68 = .ok (.lstore 5, 2) := by decide +kernel
theorem d_Sh_odds_70 : decode prog_1_method_33_code 70 = .ok (.lload 7, 2) := by decide +kernel
theorem kl_Sh_343 : Cond.constantLong "ShadeTown" 343 (10) ∈ tblG := atG 1279 (by decide +kernel) rfl
theorem d_Sh_odds_72 : decode prog_1_method_33_code 72 = .ok (.ldc2_w 343, 3) := by decide +kernel
theorem d_Sh_odds_75 : decode prog_1_method_33_code 75 = .ok (.lmul, 1) := by decide +kernel
theorem d_Sh_odds_76 : decode prog_1_method_33_code 76 = .ok (.lstore 7, 2) := by decide +kernel
theorem d_Sh_odds_51 : decode prog_1_method_33_code 51 = .ok (.ifCond .eq 27, 3) := by decide +kernel
theorem d_Sh_odds_78 : decode prog_1_method_33_code 78 = .ok (.iinc 9 1, 3) := by decide +kernel
theorem d_Sh_odds_81 : decode prog_1_method_33_code 81 = .ok (.goto (-43), 3) := by decide +kernel
theorem d_Sh_odds_41 : decode prog_1_method_33_code 41 = .ok (.if_icmp .ge 43, 3) := by decide +kernel
theorem d_Sh_odds_16 : decode prog_1_method_33_code 16 = .ok (.if_icmp .le 7, 3) := by decide +kernel
theorem d_Sh_odds_11 : decode prog_1_method_33_code 11 = .ok (.ifCond .lt 8, 3) := by decide +kernel
theorem d_Sh_odds_7 : decode prog_1_method_33_code 7 = .ok (.ifCond .eq 12, 3) := by decide +kernel
def B_Sh_odds_l38 (N : Nat) (a2 : Int32) (a3 : Int32) (rec : Int64 → Int64 → Int32 → Mem → Option (Int64 × Mem)) (x5 : Int64) (x7 : Int64) (x9 : Int32) (σ : Mem) : Option (Int64 × Mem) :=
  if a2 ≤ x9 then
    (bnd1 (f_Sh_lowest N x5 x7 a3) fun r89 =>
    some (r89, σ))
  else
    (bnd1 (f_Da_isUp σ x9) fun r48 =>
    bnd1 ((
      if r48 = 0 then
        (some (x5, x7))
      else
        (bnd1 (f_Da_cloudAt σ x9) fun r62 =>
        letv (x5 * ((10 - r62).toInt64)) fun v68 =>
        letv (x7 * 10) fun v76 =>
        some (v68, v76))) : Option (Int64 × Int64)) fun s51 =>
    q2 s51 fun y51_5 y51_7 =>
    letv (x9 + 1) fun v78 =>
    rec y51_5 y51_7 v78 σ)
def L_Sh_odds_l38 (N : Nat) (a2 : Int32) (a3 : Int32) : Nat → Int64 → Int64 → Int32 → Mem → Option (Int64 × Mem)
  | 0, _, _, _, _ => none
  | k + 1, x5, x7, x9, σ => B_Sh_odds_l38 N a2 a3 (L_Sh_odds_l38 N a2 a3 k) x5 x7 x9 σ
set_option maxHeartbeats 4000000 in
set_option maxRecDepth 20000 in
theorem cL_Sh_odds_l38 (Z : ZX) {Y : YX} {post : Option Value → Mem → Prop} {N : Nat} {a2 : Int32} {a3 : Int32} {Good : Int64 × Mem → Prop} (hR : ∀ (v : Int64) (σr : Mem), Good (v, σr) → post (some (.long v)) σr) : ∀ (k : Nat) (x5 : Int64) (x7 : Int64) (x9 : Int32) (σ : Mem) (res : Int64 × Mem), L_Sh_odds_l38 N a2 a3 k x5 x7 x9 σ = some res → Good res → V (mkB Z) Y m_Sh_odds 6 (QP (mkB Z) Y nC 0 0 post) 0 0 nC σ 38 [(2, .int a2), (3, .int a3), (4, rf Z 33), (5, .long x5), (7, .long x7), (9, .int x9)] [] := by
  intro k
  induction k with
  | zero => intro x5 x7 x9 σ res h; cases h
  | succ k ih =>
    intro x5 x7 x9 σ res h hg
    replace h : B_Sh_odds_l38 N a2 a3 (L_Sh_odds_l38 N a2 a3 k) x5 x7 x9 σ = some res := h
    unfold B_Sh_odds_l38 at h
    refine V.iload d_Sh_odds_38 5 rfl ?_
    refine V.iload_n d_Sh_odds_40 rfl 0 rfl ?_
    refine V.icmp_ge (tgt := 84) d_Sh_odds_41 (by decide) (fun hc41 => ?_) (fun hc41 => ?_)
    · replace h := ite_t hc41 h
      refine V.lload d_Sh_odds_84 3 rfl ?_
      refine V.lload d_Sh_odds_86 4 rfl ?_
      refine V.iload_n d_Sh_odds_88 rfl 1 rfl ?_
      obtain ⟨r89, h1, h⟩ := bnd1_e h
      refine V.sJ (as := [.long x5, .long x7, .int a3]) (st := []) (c_Sh_lowest Z h1) k_Sh_lowest lk_Sh_218 (by decide) rfl rfl (Nat.le_of_ble_eq_true rfl) d_Sh_odds_89 ?_
      cases h
      exact V.lret rfl d_Sh_odds_92 (hR _ _ hg)
    · replace h := ite_f hc41 h
      refine V.aload d_Sh_odds_44 2 rfl ?_
      refine V.iload d_Sh_odds_46 5 rfl ?_
      obtain ⟨r48, h1, h⟩ := bnd1_e h
      refine V.vI (as := [.int x9]) (st := []) (c_Da_isUp Z h1) k_Da_isUp lk_Sh_185 (by decide) rfl (by decide) ly_33 ok_Da.1 rfl (Nat.le_of_ble_eq_true rfl) d_Sh_odds_48 ?_
      obtain ⟨s51, h1, h⟩ := bnd1_e h
      have J51_78 : ∀ (y51_5 : Int64) (y51_7 : Int64), s51 = (y51_5, y51_7) → V (mkB Z) Y m_Sh_odds 6 (QP (mkB Z) Y nC 0 0 post) 0 0 nC σ 78 [(2, .int a2), (3, .int a3), (4, rf Z 33), (5, .long y51_5), (7, .long y51_7), (9, .int x9)] [] := by
        intro y51_5 y51_7 he
        rw [he] at h
        replace h := q2_e h
        obtain ⟨v78, e_v78, h⟩ := letv_e h
        refine V.iinc (v := v78) (lv' := [(9, .int v78), (2, .int a2), (3, .int a3), (4, rf Z 33), (5, .long y51_5), (7, .long y51_7)]) d_Sh_odds_78 5 rfl (by rw [e_v78]; rfl) (by decide) rfl ?_
        refine V.goto (tgt := 38) d_Sh_odds_81 (by decide) ?_
        exact V.pick [1, 2, 3, 4, 5, 0] rfl (ih _ _ _ _ _ h hg)
      replace h := h1
      refine V.if_eq (tgt := 78) d_Sh_odds_51 (by decide) (fun hc51 => ?_) (fun hc51 => ?_)
      · replace h := ite_t hc51 h
        exact V.pick [0, 1, 2, 3, 4, 5] rfl (J51_78 _ _ (Option.some.inj h).symm)
      · replace h := ite_f hc51 h
        refine V.lload d_Sh_odds_54 3 rfl ?_
        refine V.bipush (v := 10) d_Sh_odds_56 (by decide) ?_
        refine V.aload d_Sh_odds_58 2 rfl ?_
        refine V.iload d_Sh_odds_60 5 rfl ?_
        obtain ⟨r62, h1, h⟩ := bnd1_e h
        refine V.vI (as := [.int x9]) (st := [.int 10, .long x5]) (c_Da_cloudAt Z h1) k_Da_cloudAt lk_Sh_194 (by decide) rfl (by decide) ly_33 ok_Da.1 rfl (Nat.le_of_ble_eq_true rfl) d_Sh_odds_62 ?_
        refine V.isub d_Sh_odds_65 ?_
        refine V.i2l d_Sh_odds_66 ?_
        refine V.lmul d_Sh_odds_67 ?_
        obtain ⟨v68, e_v68, h⟩ := letv_e h
        refine V.topL e_v68 ?_
        refine V.lstore (lv' := [(5, .long v68), (2, .int a2), (3, .int a3), (4, rf Z 33), (7, .long x7), (9, .int x9)]) d_Sh_odds_68 (by decide) rfl ?_
        refine V.lload d_Sh_odds_70 4 rfl ?_
        refine V.ldc2 (v := 10) kl_Sh_343 d_Sh_odds_72 ?_
        refine V.lmul d_Sh_odds_75 ?_
        obtain ⟨v76, e_v76, h⟩ := letv_e h
        refine V.topL e_v76 ?_
        refine V.lstore (lv' := [(7, .long v76), (5, .long v68), (2, .int a2), (3, .int a3), (4, rf Z 33), (9, .int x9)]) d_Sh_odds_76 (by decide) rfl ?_
        exact V.pick [2, 3, 4, 1, 0, 5] rfl (J51_78 _ _ (Option.some.inj h).symm)
def f_Sh_odds (N : Nat) (σ : Mem) (a1 : Int32) (a2 : Int32) (a3 : Int32) : Option (Int64 × Mem) :=
  bnd1 (f_Sh_areHours a1 a2 18) fun r4 =>
  if r4 = 0 then
    (some ((-1), σ))
  else
    (if a3 < 0 then
      (some ((-1), σ))
    else
      (if a3 ≤ 1 then
        (bnd1 (f_Sh_today N σ) fun σ24 =>
        L_Sh_odds_l38 N a2 a3 N 1 1 a1 σ24)
      else
        (some ((-1), σ))))
set_option maxHeartbeats 4000000 in
set_option maxRecDepth 20000 in
theorem c_Sh_odds (Z : ZX) {N : Nat} {σ : Mem} {a1 : Int32} {a2 : Int32} {a3 : Int32} {r : Int64} {σ' : Mem} (h : f_Sh_odds N σ a1 a2 a3 = some (r, σ')) : CJ Z 6 m_Sh_odds [rf Z 0, .int a1, .int a2, .int a3] σ r σ' := by
  refine Ct.of (by decide +kernel) (Nat.le_of_ble_eq_true rfl) (fun Y => ?_)
  show V (mkB Z) Y m_Sh_odds 6 (QP (mkB Z) Y nC 0 0 (fun v t => v = some (.long r) ∧ t = σ')) 0 0 nC σ 0 [(0, rf Z 0), (1, .int a1), (2, .int a2), (3, .int a3)] []
  unfold f_Sh_odds at h
  refine V.iload_n d_Sh_odds_0 rfl 1 rfl ?_
  refine V.iload_n d_Sh_odds_1 rfl 2 rfl ?_
  refine V.bipush (v := 18) d_Sh_odds_2 (by decide) ?_
  obtain ⟨r4, h1, h⟩ := bnd1_e h
  refine V.sI (as := [.int a1, .int a2, .int 18]) (st := []) (c_Sh_areHours Z h1) k_Sh_areHours lk_Sh_227 (by decide) rfl rfl (Nat.le_of_ble_eq_true rfl) d_Sh_odds_4 ?_
  refine V.if_eq (tgt := 19) d_Sh_odds_7 (by decide) (fun hc7 => ?_) (fun hc7 => ?_)
  · replace h := ite_t hc7 h
    refine V.ldc2 (v := (-1)) kl_Sh_207 d_Sh_odds_19 ?_
    cases h
    exact V.lret rfl d_Sh_odds_22 ⟨rfl, rfl⟩
  · replace h := ite_f hc7 h
    refine V.iload_n d_Sh_odds_10 rfl 3 rfl ?_
    refine V.if_lt (tgt := 19) d_Sh_odds_11 (by decide) (fun hc11 => ?_) (fun hc11 => ?_)
    · replace h := ite_t hc11 h
      refine V.ldc2 (v := (-1)) kl_Sh_207 d_Sh_odds_19 ?_
      cases h
      exact V.lret rfl d_Sh_odds_22 ⟨rfl, rfl⟩
    · replace h := ite_f hc11 h
      refine V.iload_n d_Sh_odds_14 rfl 3 rfl ?_
      refine V.iconst (v := 1) d_Sh_odds_15 (by decide) ?_
      refine V.icmp_le (tgt := 23) d_Sh_odds_16 (by decide) (fun hc16 => ?_) (fun hc16 => ?_)
      · replace h := ite_t hc16 h
        refine V.aload_n d_Sh_odds_23 rfl 0 rfl ?_
        obtain ⟨σ24, h1, h⟩ := bnd1_e h
        refine V.vA (as := []) (st := []) (c_Sh_today Z h1) k_Sh_today lk_Sh_181 (by decide) rfl (by decide) ly_0 ok_Sh.1 rfl (Nat.le_of_ble_eq_true rfl) d_Sh_odds_24 ?_
        refine V.astore (lv' := [(4, rf Z 33), (0, rf Z 0), (1, .int a1), (2, .int a2), (3, .int a3)]) d_Sh_odds_27 (by decide) rfl ?_
        refine V.lconst (v := 1) d_Sh_odds_29 (by decide) ?_
        refine V.lstore (lv' := [(5, .long 1), (4, rf Z 33), (0, rf Z 0), (1, .int a1), (2, .int a2), (3, .int a3)]) d_Sh_odds_30 (by decide) rfl ?_
        refine V.lconst (v := 1) d_Sh_odds_32 (by decide) ?_
        refine V.lstore (lv' := [(7, .long 1), (5, .long 1), (4, rf Z 33), (0, rf Z 0), (1, .int a1), (2, .int a2), (3, .int a3)]) d_Sh_odds_33 (by decide) rfl ?_
        refine V.iload_n d_Sh_odds_35 rfl 4 rfl ?_
        refine V.istore (lv' := [(9, .int a1), (7, .long 1), (5, .long 1), (4, rf Z 33), (0, rf Z 0), (1, .int a1), (2, .int a2), (3, .int a3)]) d_Sh_odds_36 (by decide) rfl ?_
        refine V.pick [6, 7, 3, 2, 1, 0] rfl (cL_Sh_odds_l38 Z (Good := fun z => z = _) (fun r38v r38m he => ?_) N _ _ _ _ _ h rfl)
        · cases he
          exact ⟨rfl, rfl⟩
      · replace h := ite_f hc16 h
        refine V.ldc2 (v := (-1)) kl_Sh_207 d_Sh_odds_19 ?_
        cases h
        exact V.lret rfl d_Sh_odds_22 ⟨rfl, rfl⟩
abbrev m_Sh_seed : MI := (⟨"ShadeTown", "seed", "(I)Z"⟩, prog_1_method_34_code, 2, (Option.some Jvm.ClassFile.FieldType.boolean))
theorem d_Sh_seed_0 : decode prog_1_method_34_code 0 = .ok (.iload_n 1, 1) := by decide +kernel
theorem d_Sh_seed_11 : decode prog_1_method_34_code 11 = .ok (.iconst 0, 1) := by decide +kernel
theorem d_Sh_seed_12 : decode prog_1_method_34_code 12 = .ok (.ireturn, 1) := by decide +kernel
theorem d_Sh_seed_4 : decode prog_1_method_34_code 4 = .ok (.iload_n 1, 1) := by decide +kernel
theorem kc_Sh_345 : Cond.constant "ShadeTown" 345 (65535) ∈ tblG := atG 1284 (by decide +kernel) rfl
theorem d_Sh_seed_5 : decode prog_1_method_34_code 5 = .ok (.ldc_w 345, 3) := by decide +kernel
theorem d_Sh_seed_13 : decode prog_1_method_34_code 13 = .ok (.aload_n 0, 1) := by decide +kernel
theorem d_Sh_seed_14 : decode prog_1_method_34_code 14 = .ok (.getfield 38, 3) := by decide +kernel
theorem d_Sh_seed_17 : decode prog_1_method_34_code 17 = .ok (.iload_n 1, 1) := by decide +kernel
theorem fl_Sh_346 : FL "ShadeTown" 346 T_To 9 := atG 244 (by decide +kernel) rfl
theorem d_Sh_seed_18 : decode prog_1_method_34_code 18 = .ok (.putfield 346, 3) := by decide +kernel
theorem d_Sh_seed_21 : decode prog_1_method_34_code 21 = .ok (.iconst 1, 1) := by decide +kernel
theorem d_Sh_seed_22 : decode prog_1_method_34_code 22 = .ok (.ireturn, 1) := by decide +kernel
theorem d_Sh_seed_8 : decode prog_1_method_34_code 8 = .ok (.if_icmp .le 5, 3) := by decide +kernel
theorem d_Sh_seed_1 : decode prog_1_method_34_code 1 = .ok (.ifCond .lt 10, 3) := by decide +kernel
def f_Sh_seed (σ : Mem) (a1 : Int32) : Option (Int32 × Mem) :=
  if a1 < 0 then
    (some (0, σ))
  else
    (if a1 ≤ 65535 then
      (letv (sI σ 19 9 a1) fun σ18 =>
      some (1, σ18))
    else
      (some (0, σ)))
set_option maxHeartbeats 4000000 in
set_option maxRecDepth 20000 in
theorem c_Sh_seed (Z : ZX) {σ : Mem} {a1 : Int32} {r : Int32} {σ' : Mem} (h : f_Sh_seed σ a1 = some (r, σ')) : CI Z 0 m_Sh_seed [rf Z 0, .int a1] σ r σ' := by
  refine Ct.of (by decide +kernel) (Nat.le_of_ble_eq_true rfl) (fun Y => ?_)
  show V (mkB Z) Y m_Sh_seed 0 (QP (mkB Z) Y nC 0 0 (fun v t => v = some (.int r) ∧ t = σ')) 0 0 nC σ 0 [(0, rf Z 0), (1, .int a1)] []
  unfold f_Sh_seed at h
  refine V.iload_n d_Sh_seed_0 rfl 1 rfl ?_
  refine V.if_lt (tgt := 11) d_Sh_seed_1 (by decide) (fun hc1 => ?_) (fun hc1 => ?_)
  · replace h := ite_t hc1 h
    refine V.iconst (v := 0) d_Sh_seed_11 (by decide) ?_
    cases h
    exact V.zret rfl rfl d_Sh_seed_12 ⟨rfl, rfl⟩
  · replace h := ite_f hc1 h
    refine V.iload_n d_Sh_seed_4 rfl 1 rfl ?_
    refine V.ldcw (v := 65535) kc_Sh_345 d_Sh_seed_5 ?_
    refine V.icmp_le (tgt := 13) d_Sh_seed_8 (by decide) (fun hc8 => ?_) (fun hc8 => ?_)
    · replace h := ite_t hc8 h
      refine V.aload_n d_Sh_seed_13 rfl 0 rfl ?_
      refine V.getR (r := 19) ok_Sh fl_Sh_38 (by decide) (by decide) ly_0 rfl d_Sh_seed_14 ?_
      refine V.iload_n d_Sh_seed_17 rfl 1 rfl ?_
      obtain ⟨σ18, e_σ18, h⟩ := letv_e h
      refine V.putI ok_To fl_Sh_346 (by decide) (by decide) ly_19 rfl rfl rfl rfl d_Sh_seed_18 (V.mem e_σ18 ?_)
      refine V.iconst (v := 1) d_Sh_seed_21 (by decide) ?_
      cases h
      exact V.zret rfl rfl d_Sh_seed_22 ⟨rfl, rfl⟩
    · replace h := ite_f hc8 h
      refine V.iconst (v := 0) d_Sh_seed_11 (by decide) ?_
      cases h
      exact V.zret rfl rfl d_Sh_seed_12 ⟨rfl, rfl⟩
