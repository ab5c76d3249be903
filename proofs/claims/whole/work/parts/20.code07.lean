abbrev m_St_reckonHour : MI := (⟨"ShadeTown$Strips", "reckonHour", "(LShadeTown$Day;IZ)V"⟩, prog_7_method_6_code, 6, (Option.none : Option Jvm.ClassFile.FieldType))
theorem d_St_reckonHour_0 : decode prog_7_method_6_code 0 = .ok (.iconst 0, 1) := by decide +kernel
theorem d_St_reckonHour_1 : decode prog_7_method_6_code 1 = .ok (.istore 4, 2) := by decide +kernel
theorem d_St_reckonHour_3 : decode prog_7_method_6_code 3 = .ok (.iload 4, 2) := by decide +kernel
theorem d_St_reckonHour_5 : decode prog_7_method_6_code 5 = .ok (.sipush 144, 3) := by decide +kernel
theorem d_St_reckonHour_106 : decode prog_7_method_6_code 106 = .ok (.return_, 1) := by decide +kernel
theorem d_St_reckonHour_11 : decode prog_7_method_6_code 11 = .ok (.ldc 22, 2) := by decide +kernel
theorem d_St_reckonHour_13 : decode prog_7_method_6_code 13 = .ok (.istore 5, 2) := by decide +kernel
theorem d_St_reckonHour_15 : decode prog_7_method_6_code 15 = .ok (.aload_n 1, 1) := by decide +kernel
theorem d_St_reckonHour_16 : decode prog_7_method_6_code 16 = .ok (.aload_n 0, 1) := by decide +kernel
theorem fl_St_18 : FL "ShadeTown$Strips" 18 T_St 2 := atG 316 (by decide +kernel) rfl
theorem d_St_reckonHour_17 : decode prog_7_method_6_code 17 = .ok (.getfield 18, 3) := by decide +kernel
theorem d_St_reckonHour_20 : decode prog_7_method_6_code 20 = .ok (.iload_n 2, 1) := by decide +kernel
theorem d_St_reckonHour_21 : decode prog_7_method_6_code 21 = .ok (.iadd, 1) := by decide +kernel
theorem d_St_reckonHour_22 : decode prog_7_method_6_code 22 = .ok (.iload 4, 2) := by decide +kernel
theorem d_St_reckonHour_24 : decode prog_7_method_6_code 24 = .ok (.invokevirtual 39, 3) := by decide +kernel
theorem lk_St_39 : Cond.methodLink "ShadeTown$Strips" 39 ⟨"ShadeTown$Day", "whoCasts", "(II)I"⟩ ∈ tblG := atG 939 (by decide +kernel) rfl
theorem d_St_reckonHour_30 : decode prog_7_method_6_code 30 = .ok (.iload_n 3, 1) := by decide +kernel
theorem d_St_reckonHour_38 : decode prog_7_method_6_code 38 = .ok (.aload_n 0, 1) := by decide +kernel
theorem d_St_reckonHour_39 : decode prog_7_method_6_code 39 = .ok (.iload_n 2, 1) := by decide +kernel
theorem d_St_reckonHour_40 : decode prog_7_method_6_code 40 = .ok (.iconst 1, 1) := by decide +kernel
theorem d_St_reckonHour_41 : decode prog_7_method_6_code 41 = .ok (.iadd, 1) := by decide +kernel
theorem d_St_reckonHour_42 : decode prog_7_method_6_code 42 = .ok (.iload 4, 2) := by decide +kernel
theorem d_St_reckonHour_44 : decode prog_7_method_6_code 44 = .ok (.aload_n 0, 1) := by decide +kernel
theorem d_St_reckonHour_45 : decode prog_7_method_6_code 45 = .ok (.iload_n 2, 1) := by decide +kernel
theorem d_St_reckonHour_46 : decode prog_7_method_6_code 46 = .ok (.iconst 1, 1) := by decide +kernel
theorem d_St_reckonHour_47 : decode prog_7_method_6_code 47 = .ok (.iadd, 1) := by decide +kernel
theorem d_St_reckonHour_48 : decode prog_7_method_6_code 48 = .ok (.iload 4, 2) := by decide +kernel
theorem d_St_reckonHour_50 : decode prog_7_method_6_code 50 = .ok (.invokevirtual 36, 3) := by decide +kernel
theorem k_St_bestAfter : MOk m_St_bestAfter 2 ∧ IOk m_St_bestAfter := ⟨⟨atG 943 (by decide +kernel) rfl, atG 117 (by decide +kernel) rfl, ⟨by decide, by decide⟩, by decide +kernel, by decide⟩, atG 942 (by decide +kernel) rfl, atG 22 (by decide +kernel) rfl⟩
theorem lk_St_36 : Cond.methodLink "ShadeTown$Strips" 36 ⟨"ShadeTown$Strips", "bestAfter", "(II)I"⟩ ∈ tblG := atG 940 (by decide +kernel) rfl
theorem d_St_reckonHour_53 : decode prog_7_method_6_code 53 = .ok (.invokevirtual 44, 3) := by decide +kernel
theorem d_St_reckonHour_34 : decode prog_7_method_6_code 34 = .ok (.iconst 0, 1) := by decide +kernel
theorem d_St_reckonHour_35 : decode prog_7_method_6_code 35 = .ok (.goto 21, 3) := by decide +kernel
theorem d_St_reckonHour_31 : decode prog_7_method_6_code 31 = .ok (.ifCond .eq 7, 3) := by decide +kernel
theorem d_St_reckonHour_56 : decode prog_7_method_6_code 56 = .ok (.istore 5, 2) := by decide +kernel
theorem d_St_reckonHour_27 : decode prog_7_method_6_code 27 = .ok (.ifCond .eq 31, 3) := by decide +kernel
theorem d_St_reckonHour_58 : decode prog_7_method_6_code 58 = .ok (.iload 5, 2) := by decide +kernel
theorem d_St_reckonHour_60 : decode prog_7_method_6_code 60 = .ok (.ldc 22, 2) := by decide +kernel
theorem d_St_reckonHour_65 : decode prog_7_method_6_code 65 = .ok (.iload 5, 2) := by decide +kernel
theorem d_St_reckonHour_67 : decode prog_7_method_6_code 67 = .ok (.bipush 16, 2) := by decide +kernel
theorem d_St_reckonHour_69 : decode prog_7_method_6_code 69 = .ok (.aload_n 1, 1) := by decide +kernel
theorem d_St_reckonHour_70 : decode prog_7_method_6_code 70 = .ok (.aload_n 0, 1) := by decide +kernel
theorem d_St_reckonHour_71 : decode prog_7_method_6_code 71 = .ok (.getfield 18, 3) := by decide +kernel
theorem d_St_reckonHour_74 : decode prog_7_method_6_code 74 = .ok (.iload_n 2, 1) := by decide +kernel
theorem d_St_reckonHour_75 : decode prog_7_method_6_code 75 = .ok (.iadd, 1) := by decide +kernel
theorem d_St_reckonHour_76 : decode prog_7_method_6_code 76 = .ok (.iload 4, 2) := by decide +kernel
theorem d_St_reckonHour_78 : decode prog_7_method_6_code 78 = .ok (.invokevirtual 48, 3) := by decide +kernel
theorem lk_St_48 : Cond.methodLink "ShadeTown$Strips" 48 ⟨"ShadeTown$Day", "priceOf", "(II)I"⟩ ∈ tblG := atG 953 (by decide +kernel) rfl
theorem d_St_reckonHour_81 : decode prog_7_method_6_code 81 = .ok (.imul, 1) := by decide +kernel
theorem d_St_reckonHour_82 : decode prog_7_method_6_code 82 = .ok (.iadd, 1) := by decide +kernel
theorem d_St_reckonHour_83 : decode prog_7_method_6_code 83 = .ok (.istore 5, 2) := by decide +kernel
theorem d_St_reckonHour_62 : decode prog_7_method_6_code 62 = .ok (.if_icmp .ge 23, 3) := by decide +kernel
theorem d_St_reckonHour_85 : decode prog_7_method_6_code 85 = .ok (.aload_n 0, 1) := by decide +kernel
theorem d_St_reckonHour_86 : decode prog_7_method_6_code 86 = .ok (.getfield 11, 3) := by decide +kernel
theorem d_St_reckonHour_89 : decode prog_7_method_6_code 89 = .ok (.iload_n 2, 1) := by decide +kernel
theorem d_St_reckonHour_90 : decode prog_7_method_6_code 90 = .ok (.sipush 144, 3) := by decide +kernel
theorem d_St_reckonHour_93 : decode prog_7_method_6_code 93 = .ok (.imul, 1) := by decide +kernel
theorem d_St_reckonHour_94 : decode prog_7_method_6_code 94 = .ok (.iload 4, 2) := by decide +kernel
theorem d_St_reckonHour_96 : decode prog_7_method_6_code 96 = .ok (.iadd, 1) := by decide +kernel
theorem d_St_reckonHour_97 : decode prog_7_method_6_code 97 = .ok (.iload 5, 2) := by decide +kernel
theorem d_St_reckonHour_99 : decode prog_7_method_6_code 99 = .ok (.iastore, 1) := by decide +kernel
theorem d_St_reckonHour_100 : decode prog_7_method_6_code 100 = .ok (.iinc 4 1, 3) := by decide +kernel
theorem d_St_reckonHour_103 : decode prog_7_method_6_code 103 = .ok (.goto (-100), 3) := by decide +kernel
theorem d_St_reckonHour_8 : decode prog_7_method_6_code 8 = .ok (.if_icmp .ge 98, 3) := by decide +kernel
def B_St_reckonHour_l3 (N : Nat) (a2 : Int32) (a3 : Int32) (rec : Int32 → Mem → Option (Mem)) (x4 : Int32) (σ : Mem) : Option (Mem) :=
  if 144 ≤ x4 then
    (some σ)
  else
    (bnd1 (f_Da_whoCasts σ ((mI σ 41 2) + a2) x4) fun r24 =>
    bnd1 ((
      if r24 = 0 then
        (some 268435456)
      else
        (bnd1 ((
          if a3 = 0 then
            (bnd1 (f_St_bestAfter N σ (a2 + 1) x4) fun r50 =>
            bnd1 (f_St_costAfter σ (a2 + 1) x4 r50) fun r53 =>
            some r53)
          else
            (some 0)) : Option (Int32)) fun y31_s0 =>
        some y31_s0)) : Option (Int32)) fun y27_5 =>
    bnd1 ((
      if 268435456 ≤ y27_5 then
        (some (y27_5, σ))
      else
        (bnd2 (f_Da_priceOf N σ ((mI σ 41 2) + a2) x4) fun r78 σ78 =>
        letv (y27_5 + (16 * r78)) fun v83 =>
        some (v83, σ78))) : Option (Int32 × Mem)) fun s62 =>
    q2 s62 fun y62_5 σ62_ =>
    grd (inb ((a2 * 144) + x4) 1728) <|
    letv (sI σ62_ 42 (((a2 * 144) + x4).toNatClampNeg) y62_5) fun σ99 =>
    letv (x4 + 1) fun v100 =>
    rec v100 σ99)
def L_St_reckonHour_l3 (N : Nat) (a2 : Int32) (a3 : Int32) : Nat → Int32 → Mem → Option (Mem)
  | 0, _, _ => none
  | k + 1, x4, σ => B_St_reckonHour_l3 N a2 a3 (L_St_reckonHour_l3 N a2 a3 k) x4 σ
set_option maxHeartbeats 4000000 in
set_option maxRecDepth 20000 in
theorem cL_St_reckonHour_l3 (Z : ZX) {Y : YX} {post : Option Value → Mem → Prop} {N : Nat} {a2 : Int32} {a3 : Int32} {Good : Mem → Prop} (hR : ∀ (σr : Mem), Good σr → post none σr) : ∀ (k : Nat) (x4 : Int32) (σ : Mem) (res : Mem), L_St_reckonHour_l3 N a2 a3 k x4 σ = some res → Good res → V (mkB Z) Y m_St_reckonHour 4 (QP (mkB Z) Y nC 0 0 post) 0 0 nC σ 3 [(0, rf Z 41), (1, rf Z 33), (2, .int a2), (3, .int a3), (4, .int x4)] [] := by
  intro k
  induction k with
  | zero => intro x4 σ res h; cases h
  | succ k ih =>
    intro x4 σ res h hg
    replace h : B_St_reckonHour_l3 N a2 a3 (L_St_reckonHour_l3 N a2 a3 k) x4 σ = some res := h
    unfold B_St_reckonHour_l3 at h
    refine V.iload d_St_reckonHour_3 4 rfl ?_
    refine V.sipush (v := 144) d_St_reckonHour_5 (by decide) ?_
    refine V.icmp_ge (tgt := 106) d_St_reckonHour_8 (by decide) (fun hc8 => ?_) (fun hc8 => ?_)
    · replace h := ite_t hc8 h
      cases h
      exact V.vret rfl d_St_reckonHour_106 (hR _ hg)
    · replace h := ite_f hc8 h
      refine V.ldc (v := 268435456) kc_St_22 d_St_reckonHour_11 ?_
      refine V.istore (lv' := [(5, .int 268435456), (0, rf Z 41), (1, rf Z 33), (2, .int a2), (3, .int a3), (4, .int x4)]) d_St_reckonHour_13 (by decide) rfl ?_
      refine V.aload_n d_St_reckonHour_15 rfl 2 rfl ?_
      refine V.aload_n d_St_reckonHour_16 rfl 1 rfl ?_
      refine V.getI ok_St fl_St_18 (by decide) (by decide) ly_41 rfl d_St_reckonHour_17 ?_
      refine V.iload_n d_St_reckonHour_20 rfl 3 rfl ?_
      refine V.iadd d_St_reckonHour_21 ?_
      refine V.iload d_St_reckonHour_22 5 rfl ?_
      obtain ⟨r24, h1, h⟩ := bnd1_e h
      refine V.vI (as := [.int ((mI σ 41 2) + a2), .int x4]) (st := []) (c_Da_whoCasts Z h1) k_Da_whoCasts lk_St_39 (by decide) rfl (by decide) ly_33 ok_Da.1 rfl (Nat.le_of_ble_eq_true rfl) d_St_reckonHour_24 ?_
      obtain ⟨s27, h1, h⟩ := bnd1_e h
      have J27_58 : ∀ (y27_5 : Int32), s27 = y27_5 → V (mkB Z) Y m_St_reckonHour 4 (QP (mkB Z) Y nC 0 0 post) 0 0 nC σ 58 [(0, rf Z 41), (1, rf Z 33), (2, .int a2), (3, .int a3), (4, .int x4), (5, .int y27_5)] [] := by
        intro y27_5 he
        rw [he] at h
        refine V.iload d_St_reckonHour_58 5 rfl ?_
        refine V.ldc (v := 268435456) kc_St_22 d_St_reckonHour_60 ?_
        obtain ⟨s62, h1, h⟩ := bnd1_e h
        have J62_85 : ∀ (y62_5 : Int32) (σ62_ : Mem), s62 = (y62_5, σ62_) → V (mkB Z) Y m_St_reckonHour 4 (QP (mkB Z) Y nC 0 0 post) 0 0 nC σ62_ 85 [(0, rf Z 41), (1, rf Z 33), (2, .int a2), (3, .int a3), (4, .int x4), (5, .int y62_5)] [] := by
          intro y62_5 σ62_ he
          rw [he] at h
          replace h := q2_e h
          refine V.aload_n d_St_reckonHour_85 rfl 0 rfl ?_
          refine V.getR (r := 42) ok_St fl_St_11 (by decide) (by decide) ly_41 rfl d_St_reckonHour_86 ?_
          refine V.iload_n d_St_reckonHour_89 rfl 2 rfl ?_
          refine V.sipush (v := 144) d_St_reckonHour_90 (by decide) ?_
          refine V.imul d_St_reckonHour_93 ?_
          refine V.iload d_St_reckonHour_94 4 rfl ?_
          refine V.iadd d_St_reckonHour_96 ?_
          refine V.iload d_St_reckonHour_97 5 rfl ?_
          obtain ⟨gq, h⟩ := grd_e h
          obtain ⟨σ99, e_σ99, h⟩ := letv_e h
          refine V.wa (by decide) ly_42 (inb_e gq) rfl d_St_reckonHour_99 e_σ99 ?_
          obtain ⟨v100, e_v100, h⟩ := letv_e h
          refine V.iinc (v := v100) (lv' := [(4, .int v100), (0, rf Z 41), (1, rf Z 33), (2, .int a2), (3, .int a3), (5, .int y62_5)]) d_St_reckonHour_100 4 rfl (by rw [e_v100]; rfl) (by decide) rfl ?_
          refine V.goto (tgt := 3) d_St_reckonHour_103 (by decide) ?_
          exact V.pick [1, 2, 3, 4, 0] rfl (ih _ _ _ h hg)
        replace h := h1
        refine V.icmp_ge (tgt := 85) d_St_reckonHour_62 (by decide) (fun hc62 => ?_) (fun hc62 => ?_)
        · replace h := ite_t hc62 h
          exact V.pick [0, 1, 2, 3, 4, 5] rfl (J62_85 _ _ (Option.some.inj h).symm)
        · replace h := ite_f hc62 h
          refine V.iload d_St_reckonHour_65 5 rfl ?_
          refine V.bipush (v := 16) d_St_reckonHour_67 (by decide) ?_
          refine V.aload_n d_St_reckonHour_69 rfl 1 rfl ?_
          refine V.aload_n d_St_reckonHour_70 rfl 0 rfl ?_
          refine V.getI ok_St fl_St_18 (by decide) (by decide) ly_41 rfl d_St_reckonHour_71 ?_
          refine V.iload_n d_St_reckonHour_74 rfl 2 rfl ?_
          refine V.iadd d_St_reckonHour_75 ?_
          refine V.iload d_St_reckonHour_76 4 rfl ?_
          obtain ⟨r78, σ78, h1, h⟩ := bnd2_e h
          refine V.vI (as := [.int ((mI σ 41 2) + a2), .int x4]) (st := [.int 16, .int y27_5]) (c_Da_priceOf Z h1) k_Da_priceOf lk_St_48 (by decide) rfl (by decide) ly_33 ok_Da.1 rfl (Nat.le_of_ble_eq_true rfl) d_St_reckonHour_78 ?_
          refine V.imul d_St_reckonHour_81 ?_
          refine V.iadd d_St_reckonHour_82 ?_
          obtain ⟨v83, e_v83, h⟩ := letv_e h
          refine V.topI e_v83 ?_
          refine V.istore (lv' := [(5, .int v83), (0, rf Z 41), (1, rf Z 33), (2, .int a2), (3, .int a3), (4, .int x4)]) d_St_reckonHour_83 (by decide) rfl ?_
          exact V.pick [1, 2, 3, 4, 5, 0] rfl (J62_85 _ _ (Option.some.inj h).symm)
      replace h := h1
      refine V.if_eq (tgt := 58) d_St_reckonHour_27 (by decide) (fun hc27 => ?_) (fun hc27 => ?_)
      · replace h := ite_t hc27 h
        exact V.pick [1, 2, 3, 4, 5, 0] rfl (J27_58 _ (Option.some.inj h).symm)
      · replace h := ite_f hc27 h
        refine V.iload_n d_St_reckonHour_30 rfl 4 rfl ?_
        obtain ⟨s31, h1, h⟩ := bnd1_e h
        have J31_56 : ∀ (y31_s0 : Int32), s31 = y31_s0 → V (mkB Z) Y m_St_reckonHour 4 (QP (mkB Z) Y nC 0 0 post) 0 0 nC σ 56 [(0, rf Z 41), (1, rf Z 33), (2, .int a2), (3, .int a3), (4, .int x4)] [.int y31_s0] := by
          intro y31_s0 he
          rw [he] at h
          refine V.istore (lv' := [(5, .int y31_s0), (0, rf Z 41), (1, rf Z 33), (2, .int a2), (3, .int a3), (4, .int x4)]) d_St_reckonHour_56 (by decide) rfl ?_
          exact V.pick [1, 2, 3, 4, 5, 0] rfl (J27_58 _ (Option.some.inj h).symm)
        replace h := h1
        refine V.if_eq (tgt := 38) d_St_reckonHour_31 (by decide) (fun hc31 => ?_) (fun hc31 => ?_)
        · replace h := ite_t hc31 h
          refine V.aload_n d_St_reckonHour_38 rfl 1 rfl ?_
          refine V.iload_n d_St_reckonHour_39 rfl 3 rfl ?_
          refine V.iconst (v := 1) d_St_reckonHour_40 (by decide) ?_
          refine V.iadd d_St_reckonHour_41 ?_
          refine V.iload d_St_reckonHour_42 5 rfl ?_
          refine V.aload_n d_St_reckonHour_44 rfl 1 rfl ?_
          refine V.iload_n d_St_reckonHour_45 rfl 3 rfl ?_
          refine V.iconst (v := 1) d_St_reckonHour_46 (by decide) ?_
          refine V.iadd d_St_reckonHour_47 ?_
          refine V.iload d_St_reckonHour_48 5 rfl ?_
          obtain ⟨r50, h1, h⟩ := bnd1_e h
          refine V.vI (as := [.int (a2 + 1), .int x4]) (st := [.int x4, .int (a2 + 1), rf Z 41]) (c_St_bestAfter Z h1) k_St_bestAfter lk_St_36 (by decide) rfl (by decide) ly_41 ok_St.1 rfl (Nat.le_of_ble_eq_true rfl) d_St_reckonHour_50 ?_
          obtain ⟨r53, h1, h⟩ := bnd1_e h
          refine V.vI (as := [.int (a2 + 1), .int x4, .int r50]) (st := []) (c_St_costAfter Z h1) k_St_costAfter lk_St_44 (by decide) rfl (by decide) ly_41 ok_St.1 rfl (Nat.le_of_ble_eq_true rfl) d_St_reckonHour_53 ?_
          exact V.pick [1, 2, 3, 4, 5] rfl (J31_56 _ (Option.some.inj h).symm)
        · replace h := ite_f hc31 h
          refine V.iconst (v := 0) d_St_reckonHour_34 (by decide) ?_
          refine V.goto (tgt := 56) d_St_reckonHour_35 (by decide) ?_
          exact V.pick [1, 2, 3, 4, 5] rfl (J31_56 _ (Option.some.inj h).symm)
def f_St_reckonHour (N : Nat) (σ : Mem) (a2 : Int32) (a3 : Int32) : Option (Mem) :=
  L_St_reckonHour_l3 N a2 a3 N 0 σ
set_option maxHeartbeats 4000000 in
set_option maxRecDepth 20000 in
theorem c_St_reckonHour (Z : ZX) {N : Nat} {σ : Mem} {a2 : Int32} {a3 : Int32} {σ' : Mem} (h : f_St_reckonHour N σ a2 a3 = some σ') : CN Z 4 m_St_reckonHour [rf Z 41, rf Z 33, .int a2, .int a3] σ σ' := by
  refine Ct.of (by decide +kernel) (Nat.le_of_ble_eq_true rfl) (fun Y => ?_)
  show V (mkB Z) Y m_St_reckonHour 4 (QP (mkB Z) Y nC 0 0 (fun v t => v = none ∧ t = σ')) 0 0 nC σ 0 [(0, rf Z 41), (1, rf Z 33), (2, .int a2), (3, .int a3)] []
  unfold f_St_reckonHour at h
  refine V.iconst (v := 0) d_St_reckonHour_0 (by decide) ?_
  refine V.istore (lv' := [(4, .int 0), (0, rf Z 41), (1, rf Z 33), (2, .int a2), (3, .int a3)]) d_St_reckonHour_1 (by decide) rfl ?_
  refine V.pick [1, 2, 3, 4, 0] rfl (cL_St_reckonHour_l3 Z (Good := fun z => z = _) (fun r3m he => ?_) N _ _ _ h rfl)
  · cases he
    exact ⟨rfl, rfl⟩
abbrev m_St_find : MI := (⟨"ShadeTown$Strips", "find", "(LShadeTown$Day;II)Z"⟩, prog_7_method_2_code, 6, (Option.some Jvm.ClassFile.FieldType.boolean))
theorem d_St_find_0 : decode prog_7_method_2_code 0 = .ok (.aload_n 0, 1) := by decide +kernel
theorem d_St_find_1 : decode prog_7_method_2_code 1 = .ok (.iload_n 2, 1) := by decide +kernel
theorem d_St_find_2 : decode prog_7_method_2_code 2 = .ok (.putfield 18, 3) := by decide +kernel
theorem d_St_find_5 : decode prog_7_method_2_code 5 = .ok (.aload_n 0, 1) := by decide +kernel
theorem d_St_find_6 : decode prog_7_method_2_code 6 = .ok (.ldc 22, 2) := by decide +kernel
theorem fl_St_23 : FL "ShadeTown$Strips" 23 T_St 3 := atG 317 (by decide +kernel) rfl
theorem d_St_find_8 : decode prog_7_method_2_code 8 = .ok (.putfield 23, 3) := by decide +kernel
theorem d_St_find_11 : decode prog_7_method_2_code 11 = .ok (.bipush 12, 2) := by decide +kernel
theorem d_St_find_13 : decode prog_7_method_2_code 13 = .ok (.iload_n 3, 1) := by decide +kernel
theorem d_St_find_14 : decode prog_7_method_2_code 14 = .ok (.iload_n 2, 1) := by decide +kernel
theorem d_St_find_15 : decode prog_7_method_2_code 15 = .ok (.isub, 1) := by decide +kernel
theorem d_St_find_16 : decode prog_7_method_2_code 16 = .ok (.invokestatic 26, 3) := by decide +kernel
theorem lk_St_26 : Cond.methodLink "ShadeTown$Strips" 26 ⟨"java/lang/Math", "min", "(II)I"⟩ ∈ tblG := atG 934 (by decide +kernel) rfl
theorem d_St_find_19 : decode prog_7_method_2_code 19 = .ok (.istore 4, 2) := by decide +kernel
theorem d_St_find_21 : decode prog_7_method_2_code 21 = .ok (.iload 4, 2) := by decide +kernel
theorem d_St_find_23 : decode prog_7_method_2_code 23 = .ok (.iconst 1, 1) := by decide +kernel
theorem d_St_find_24 : decode prog_7_method_2_code 24 = .ok (.isub, 1) := by decide +kernel
theorem d_St_find_25 : decode prog_7_method_2_code 25 = .ok (.istore 5, 2) := by decide +kernel
theorem d_St_find_27 : decode prog_7_method_2_code 27 = .ok (.iload 5, 2) := by decide +kernel
theorem d_St_find_32 : decode prog_7_method_2_code 32 = .ok (.aload_n 0, 1) := by decide +kernel
theorem d_St_find_33 : decode prog_7_method_2_code 33 = .ok (.aload_n 1, 1) := by decide +kernel
theorem d_St_find_34 : decode prog_7_method_2_code 34 = .ok (.iload 5, 2) := by decide +kernel
theorem d_St_find_36 : decode prog_7_method_2_code 36 = .ok (.iload 5, 2) := by decide +kernel
theorem d_St_find_38 : decode prog_7_method_2_code 38 = .ok (.iload 4, 2) := by decide +kernel
theorem d_St_find_40 : decode prog_7_method_2_code 40 = .ok (.iconst 1, 1) := by decide +kernel
theorem d_St_find_41 : decode prog_7_method_2_code 41 = .ok (.isub, 1) := by decide +kernel
theorem d_St_find_49 : decode prog_7_method_2_code 49 = .ok (.iconst 0, 1) := by decide +kernel
theorem d_St_find_45 : decode prog_7_method_2_code 45 = .ok (.iconst 1, 1) := by decide +kernel
theorem d_St_find_46 : decode prog_7_method_2_code 46 = .ok (.goto 4, 3) := by decide +kernel
theorem d_St_find_42 : decode prog_7_method_2_code 42 = .ok (.if_icmp .ne 7, 3) := by decide +kernel
theorem d_St_find_50 : decode prog_7_method_2_code 50 = .ok (.invokevirtual 32, 3) := by decide +kernel
theorem k_St_reckonHour : MOk m_St_reckonHour 3 ∧ IOk m_St_reckonHour := ⟨⟨atG 938 (by decide +kernel) rfl, atG 117 (by decide +kernel) rfl, ⟨by decide, by decide⟩, by decide +kernel, by decide⟩, atG 937 (by decide +kernel) rfl, atG 21 (by decide +kernel) rfl⟩
theorem lk_St_32 : Cond.methodLink "ShadeTown$Strips" 32 ⟨"ShadeTown$Strips", "reckonHour", "(LShadeTown$Day;IZ)V"⟩ ∈ tblG := atG 935 (by decide +kernel) rfl
theorem d_St_find_53 : decode prog_7_method_2_code 53 = .ok (.iinc 5 (-1), 3) := by decide +kernel
theorem d_St_find_56 : decode prog_7_method_2_code 56 = .ok (.goto (-29), 3) := by decide +kernel
theorem d_St_find_29 : decode prog_7_method_2_code 29 = .ok (.ifCond .lt 30, 3) := by decide +kernel
theorem d_St_find_59 : decode prog_7_method_2_code 59 = .ok (.iconst 0, 1) := by decide +kernel
theorem d_St_find_60 : decode prog_7_method_2_code 60 = .ok (.istore 5, 2) := by decide +kernel
theorem d_St_find_62 : decode prog_7_method_2_code 62 = .ok (.iload 5, 2) := by decide +kernel
theorem d_St_find_64 : decode prog_7_method_2_code 64 = .ok (.sipush 144, 3) := by decide +kernel
theorem d_St_find_70 : decode prog_7_method_2_code 70 = .ok (.aload_n 0, 1) := by decide +kernel
theorem d_St_find_71 : decode prog_7_method_2_code 71 = .ok (.getfield 11, 3) := by decide +kernel
theorem d_St_find_74 : decode prog_7_method_2_code 74 = .ok (.iload 5, 2) := by decide +kernel
theorem d_St_find_76 : decode prog_7_method_2_code 76 = .ok (.iaload, 1) := by decide +kernel
theorem d_St_find_77 : decode prog_7_method_2_code 77 = .ok (.aload_n 0, 1) := by decide +kernel
theorem d_St_find_78 : decode prog_7_method_2_code 78 = .ok (.getfield 23, 3) := by decide +kernel
theorem d_St_find_84 : decode prog_7_method_2_code 84 = .ok (.aload_n 0, 1) := by decide +kernel
theorem d_St_find_85 : decode prog_7_method_2_code 85 = .ok (.aload_n 0, 1) := by decide +kernel
theorem d_St_find_86 : decode prog_7_method_2_code 86 = .ok (.getfield 11, 3) := by decide +kernel
theorem d_St_find_89 : decode prog_7_method_2_code 89 = .ok (.iload 5, 2) := by decide +kernel
theorem d_St_find_91 : decode prog_7_method_2_code 91 = .ok (.iaload, 1) := by decide +kernel
theorem d_St_find_92 : decode prog_7_method_2_code 92 = .ok (.putfield 23, 3) := by decide +kernel
theorem d_St_find_95 : decode prog_7_method_2_code 95 = .ok (.aload_n 0, 1) := by decide +kernel
theorem fl_St_15 : FL "ShadeTown$Strips" 15 T_St 1 := atG 315 (by decide +kernel) rfl
theorem d_St_find_96 : decode prog_7_method_2_code 96 = .ok (.getfield 15, 3) := by decide +kernel
theorem d_St_find_99 : decode prog_7_method_2_code 99 = .ok (.iconst 0, 1) := by decide +kernel
theorem d_St_find_100 : decode prog_7_method_2_code 100 = .ok (.iload 5, 2) := by decide +kernel
theorem d_St_find_102 : decode prog_7_method_2_code 102 = .ok (.iastore, 1) := by decide +kernel
theorem d_St_find_81 : decode prog_7_method_2_code 81 = .ok (.if_icmp .ge 22, 3) := by decide +kernel
theorem d_St_find_103 : decode prog_7_method_2_code 103 = .ok (.iinc 5 1, 3) := by decide +kernel
theorem d_St_find_106 : decode prog_7_method_2_code 106 = .ok (.goto (-44), 3) := by decide +kernel
theorem d_St_find_67 : decode prog_7_method_2_code 67 = .ok (.if_icmp .ge 42, 3) := by decide +kernel
theorem d_St_find_109 : decode prog_7_method_2_code 109 = .ok (.iconst 1, 1) := by decide +kernel
theorem d_St_find_110 : decode prog_7_method_2_code 110 = .ok (.istore 5, 2) := by decide +kernel
theorem d_St_find_112 : decode prog_7_method_2_code 112 = .ok (.iload 5, 2) := by decide +kernel
theorem d_St_find_114 : decode prog_7_method_2_code 114 = .ok (.iload 4, 2) := by decide +kernel
theorem d_St_find_119 : decode prog_7_method_2_code 119 = .ok (.aload_n 0, 1) := by decide +kernel
theorem d_St_find_120 : decode prog_7_method_2_code 120 = .ok (.getfield 23, 3) := by decide +kernel
theorem d_St_find_123 : decode prog_7_method_2_code 123 = .ok (.ldc 22, 2) := by decide +kernel
theorem d_St_find_128 : decode prog_7_method_2_code 128 = .ok (.aload_n 0, 1) := by decide +kernel
theorem d_St_find_129 : decode prog_7_method_2_code 129 = .ok (.getfield 15, 3) := by decide +kernel
theorem d_St_find_132 : decode prog_7_method_2_code 132 = .ok (.iload 5, 2) := by decide +kernel
theorem d_St_find_134 : decode prog_7_method_2_code 134 = .ok (.aload_n 0, 1) := by decide +kernel
theorem d_St_find_135 : decode prog_7_method_2_code 135 = .ok (.iload 5, 2) := by decide +kernel
theorem d_St_find_137 : decode prog_7_method_2_code 137 = .ok (.aload_n 0, 1) := by decide +kernel
theorem d_St_find_138 : decode prog_7_method_2_code 138 = .ok (.getfield 15, 3) := by decide +kernel
theorem d_St_find_141 : decode prog_7_method_2_code 141 = .ok (.iload 5, 2) := by decide +kernel
theorem d_St_find_143 : decode prog_7_method_2_code 143 = .ok (.iconst 1, 1) := by decide +kernel
theorem d_St_find_144 : decode prog_7_method_2_code 144 = .ok (.isub, 1) := by decide +kernel
theorem d_St_find_145 : decode prog_7_method_2_code 145 = .ok (.iaload, 1) := by decide +kernel
theorem d_St_find_146 : decode prog_7_method_2_code 146 = .ok (.invokevirtual 36, 3) := by decide +kernel
theorem d_St_find_149 : decode prog_7_method_2_code 149 = .ok (.iastore, 1) := by decide +kernel
theorem d_St_find_150 : decode prog_7_method_2_code 150 = .ok (.iinc 5 1, 3) := by decide +kernel
theorem d_St_find_153 : decode prog_7_method_2_code 153 = .ok (.goto (-41), 3) := by decide +kernel
theorem d_St_find_125 : decode prog_7_method_2_code 125 = .ok (.if_icmp .ge 31, 3) := by decide +kernel
theorem d_St_find_116 : decode prog_7_method_2_code 116 = .ok (.if_icmp .ge 40, 3) := by decide +kernel
theorem d_St_find_156 : decode prog_7_method_2_code 156 = .ok (.aload_n 0, 1) := by decide +kernel
theorem d_St_find_157 : decode prog_7_method_2_code 157 = .ok (.getfield 23, 3) := by decide +kernel
theorem d_St_find_160 : decode prog_7_method_2_code 160 = .ok (.ldc 22, 2) := by decide +kernel
theorem d_St_find_169 : decode prog_7_method_2_code 169 = .ok (.iconst 0, 1) := by decide +kernel
theorem d_St_find_170 : decode prog_7_method_2_code 170 = .ok (.ireturn, 1) := by decide +kernel
theorem d_St_find_165 : decode prog_7_method_2_code 165 = .ok (.iconst 1, 1) := by decide +kernel
theorem d_St_find_166 : decode prog_7_method_2_code 166 = .ok (.goto 4, 3) := by decide +kernel
theorem d_St_find_162 : decode prog_7_method_2_code 162 = .ok (.if_icmp .ge 7, 3) := by decide +kernel
def B_St_find_l27 (N : Nat) (a4 : Int32) (rec : Int32 → Mem → Option (Mem)) (x5 : Int32) (σ : Mem) : Option (Mem) :=
  if x5 < 0 then
    (some σ)
  else
    (bnd1 ((
      if x5 = (a4 - 1) then
        (some 1)
      else
        (some 0)) : Option (Int32)) fun y42_s3 =>
    bnd1 (f_St_reckonHour N σ x5 y42_s3) fun σ50 =>
    letv (x5 + (-1)) fun v53 =>
    rec v53 σ50)
def L_St_find_l27 (N : Nat) (a4 : Int32) : Nat → Int32 → Mem → Option (Mem)
  | 0, _, _ => none
  | k + 1, x5, σ => B_St_find_l27 N a4 (L_St_find_l27 N a4 k) x5 σ
set_option maxHeartbeats 4000000 in
set_option maxRecDepth 20000 in
theorem cL_St_find_l27 (Z : ZX) {Y : YX} {Q : State → Prop} {N : Nat} {a4 : Int32} {Good : Mem → Prop} (hE : ∀ (σe : Mem), Good σe → V (mkB Z) Y m_St_find 5 Q 0 0 nC σe 59 [(0, rf Z 41), (4, .int a4)] []) : ∀ (k : Nat) (x5 : Int32) (σ : Mem) (res : Mem), L_St_find_l27 N a4 k x5 σ = some res → Good res → V (mkB Z) Y m_St_find 5 Q 0 0 nC σ 27 [(0, rf Z 41), (1, rf Z 33), (4, .int a4), (5, .int x5)] [] := by
  intro k
  induction k with
  | zero => intro x5 σ res h; cases h
  | succ k ih =>
    intro x5 σ res h hg
    replace h : B_St_find_l27 N a4 (L_St_find_l27 N a4 k) x5 σ = some res := h
    unfold B_St_find_l27 at h
    refine V.iload d_St_find_27 3 rfl ?_
    refine V.if_lt (tgt := 59) d_St_find_29 (by decide) (fun hc29 => ?_) (fun hc29 => ?_)
    · replace h := ite_t hc29 h
      cases h
      exact V.pick [0, 2] rfl (hE _ hg)
    · replace h := ite_f hc29 h
      refine V.aload_n d_St_find_32 rfl 0 rfl ?_
      refine V.aload_n d_St_find_33 rfl 1 rfl ?_
      refine V.iload d_St_find_34 3 rfl ?_
      refine V.iload d_St_find_36 3 rfl ?_
      refine V.iload d_St_find_38 2 rfl ?_
      refine V.iconst (v := 1) d_St_find_40 (by decide) ?_
      refine V.isub d_St_find_41 ?_
      obtain ⟨s42, h1, h⟩ := bnd1_e h
      have J42_50 : ∀ (y42_s3 : Int32), s42 = y42_s3 → V (mkB Z) Y m_St_find 5 Q 0 0 nC σ 50 [(0, rf Z 41), (1, rf Z 33), (4, .int a4), (5, .int x5)] [.int y42_s3, .int x5, rf Z 33, rf Z 41] := by
        intro y42_s3 he
        rw [he] at h
        obtain ⟨σ50, h1, h⟩ := bnd1_e h
        refine V.vN (as := [rf Z 33, .int x5, .int y42_s3]) (st := []) (c_St_reckonHour Z h1) k_St_reckonHour lk_St_32 (by decide) rfl (by decide) ly_41 ok_St.1 rfl (Nat.le_of_ble_eq_true rfl) d_St_find_50 ?_
        obtain ⟨v53, e_v53, h⟩ := letv_e h
        refine V.iinc (v := v53) (lv' := [(5, .int v53), (0, rf Z 41), (1, rf Z 33), (4, .int a4)]) d_St_find_53 3 rfl (by rw [e_v53]; rfl) (by decide) rfl ?_
        refine V.goto (tgt := 27) d_St_find_56 (by decide) ?_
        exact V.pick [1, 2, 3, 0] rfl (ih _ _ _ h hg)
      replace h := h1
      refine V.icmp_ne (tgt := 49) d_St_find_42 (by decide) (fun hc42 => ?_) (fun hc42 => ?_)
      · replace h := ite_f hc42 h
        refine V.iconst (v := 0) d_St_find_49 (by decide) ?_
        exact V.pick [0, 1, 2, 3] rfl (J42_50 _ (Option.some.inj h).symm)
      · replace h := ite_t hc42 h
        refine V.iconst (v := 1) d_St_find_45 (by decide) ?_
        refine V.goto (tgt := 50) d_St_find_46 (by decide) ?_
        exact V.pick [0, 1, 2, 3] rfl (J42_50 _ (Option.some.inj h).symm)
def B_St_find_l62 (N : Nat) (a4 : Int32) (rec : Int32 → Mem → Option (Mem)) (x5 : Int32) (σ : Mem) : Option (Mem) :=
  if 144 ≤ x5 then
    (some σ)
  else
    (grd (inb x5 1728) <|
    bnd1 ((
      if (mI σ 41 3) ≤ (mI σ 42 (x5.toNatClampNeg)) then
        (some σ)
      else
        (grd (inb x5 1728) <|
        letv (sI σ 41 3 (mI σ 42 (x5.toNatClampNeg))) fun σ92 =>
        letv (sI σ92 43 0 x5) fun σ102 =>
        some σ102)) : Option (Mem)) fun σ81_ =>
    letv (x5 + 1) fun v103 =>
    rec v103 σ81_)
def L_St_find_l62 (N : Nat) (a4 : Int32) : Nat → Int32 → Mem → Option (Mem)
  | 0, _, _ => none
  | k + 1, x5, σ => B_St_find_l62 N a4 (L_St_find_l62 N a4 k) x5 σ
set_option maxHeartbeats 4000000 in
set_option maxRecDepth 20000 in
theorem cL_St_find_l62 (Z : ZX) {Y : YX} {Q : State → Prop} {N : Nat} {a4 : Int32} {Good : Mem → Prop} (hE : ∀ (σe : Mem), Good σe → V (mkB Z) Y m_St_find 5 Q 0 0 nC σe 109 [(0, rf Z 41), (4, .int a4)] []) : ∀ (k : Nat) (x5 : Int32) (σ : Mem) (res : Mem), L_St_find_l62 N a4 k x5 σ = some res → Good res → V (mkB Z) Y m_St_find 5 Q 0 0 nC σ 62 [(0, rf Z 41), (4, .int a4), (5, .int x5)] [] := by
  intro k
  induction k with
  | zero => intro x5 σ res h; cases h
  | succ k ih =>
    intro x5 σ res h hg
    replace h : B_St_find_l62 N a4 (L_St_find_l62 N a4 k) x5 σ = some res := h
    unfold B_St_find_l62 at h
    refine V.iload d_St_find_62 2 rfl ?_
    refine V.sipush (v := 144) d_St_find_64 (by decide) ?_
    refine V.icmp_ge (tgt := 109) d_St_find_67 (by decide) (fun hc67 => ?_) (fun hc67 => ?_)
    · replace h := ite_t hc67 h
      cases h
      exact V.pick [0, 1] rfl (hE _ hg)
    · replace h := ite_f hc67 h
      refine V.aload_n d_St_find_70 rfl 0 rfl ?_
      refine V.getR (r := 42) ok_St fl_St_11 (by decide) (by decide) ly_41 rfl d_St_find_71 ?_
      refine V.iload d_St_find_74 2 rfl ?_
      obtain ⟨gq, h⟩ := grd_e h
      refine V.ra (by decide) ly_42 (inb_e gq) rfl d_St_find_76 ?_
      refine V.aload_n d_St_find_77 rfl 0 rfl ?_
      refine V.getI ok_St fl_St_23 (by decide) (by decide) ly_41 rfl d_St_find_78 ?_
      obtain ⟨s81, h1, h⟩ := bnd1_e h
      have J81_103 : ∀ (σ81_ : Mem), s81 = σ81_ → V (mkB Z) Y m_St_find 5 Q 0 0 nC σ81_ 103 [(0, rf Z 41), (4, .int a4), (5, .int x5)] [] := by
        intro σ81_ he
        rw [he] at h
        obtain ⟨v103, e_v103, h⟩ := letv_e h
        refine V.iinc (v := v103) (lv' := [(5, .int v103), (0, rf Z 41), (4, .int a4)]) d_St_find_103 2 rfl (by rw [e_v103]; rfl) (by decide) rfl ?_
        refine V.goto (tgt := 62) d_St_find_106 (by decide) ?_
        exact V.pick [1, 2, 0] rfl (ih _ _ _ h hg)
      replace h := h1
      refine V.icmp_ge (tgt := 103) d_St_find_81 (by decide) (fun hc81 => ?_) (fun hc81 => ?_)
      · replace h := ite_t hc81 h
        exact V.pick [0, 1, 2] rfl (J81_103 _ (Option.some.inj h).symm)
      · replace h := ite_f hc81 h
        refine V.aload_n d_St_find_84 rfl 0 rfl ?_
        refine V.aload_n d_St_find_85 rfl 0 rfl ?_
        refine V.getR (r := 42) ok_St fl_St_11 (by decide) (by decide) ly_41 rfl d_St_find_86 ?_
        refine V.iload d_St_find_89 2 rfl ?_
        obtain ⟨gq, h⟩ := grd_e h
        refine V.ra (by decide) ly_42 (inb_e gq) rfl d_St_find_91 ?_
        obtain ⟨σ92, e_σ92, h⟩ := letv_e h
        refine V.putI ok_St fl_St_23 (by decide) (by decide) ly_41 rfl rfl rfl rfl d_St_find_92 (V.mem e_σ92 ?_)
        refine V.aload_n d_St_find_95 rfl 0 rfl ?_
        refine V.getR (r := 43) ok_St fl_St_15 (by decide) (by decide) ly_41 rfl d_St_find_96 ?_
        refine V.iconst (v := 0) d_St_find_99 (by decide) ?_
        refine V.iload d_St_find_100 2 rfl ?_
        obtain ⟨σ102, e_σ102, h⟩ := letv_e h
        refine V.wa (j := 0) (by decide) ly_43 (inb_e (by decide)) (by decide) d_St_find_102 e_σ102 ?_
        exact V.pick [0, 1, 2] rfl (J81_103 _ (Option.some.inj h).symm)
def B_St_find_l112 (N : Nat) (a4 : Int32) (rec : Int32 → Mem → Option (Mem)) (x5 : Int32) (σ : Mem) : Option (Mem) :=
  if a4 ≤ x5 then
    (some σ)
  else
    (if 268435456 ≤ (mI σ 41 3) then
      (some σ)
    else
      (grd (inb (x5 - 1) 12) <|
      bnd1 (f_St_bestAfter N σ x5 (mI σ 43 ((x5 - 1).toNatClampNeg))) fun r146 =>
      grd (inb x5 12) <|
      letv (sI σ 43 (x5.toNatClampNeg) r146) fun σ149 =>
      letv (x5 + 1) fun v150 =>
      rec v150 σ149))
def L_St_find_l112 (N : Nat) (a4 : Int32) : Nat → Int32 → Mem → Option (Mem)
  | 0, _, _ => none
  | k + 1, x5, σ => B_St_find_l112 N a4 (L_St_find_l112 N a4 k) x5 σ
set_option maxHeartbeats 4000000 in
set_option maxRecDepth 20000 in
theorem cL_St_find_l112 (Z : ZX) {Y : YX} {Q : State → Prop} {N : Nat} {a4 : Int32} {Good : Mem → Prop} (hE : ∀ (σe : Mem), Good σe → V (mkB Z) Y m_St_find 5 Q 0 0 nC σe 156 [(0, rf Z 41)] []) : ∀ (k : Nat) (x5 : Int32) (σ : Mem) (res : Mem), L_St_find_l112 N a4 k x5 σ = some res → Good res → V (mkB Z) Y m_St_find 5 Q 0 0 nC σ 112 [(0, rf Z 41), (4, .int a4), (5, .int x5)] [] := by
  intro k
  induction k with
  | zero => intro x5 σ res h; cases h
  | succ k ih =>
    intro x5 σ res h hg
    replace h : B_St_find_l112 N a4 (L_St_find_l112 N a4 k) x5 σ = some res := h
    unfold B_St_find_l112 at h
    refine V.iload d_St_find_112 2 rfl ?_
    refine V.iload d_St_find_114 1 rfl ?_
    refine V.icmp_ge (tgt := 156) d_St_find_116 (by decide) (fun hc116 => ?_) (fun hc116 => ?_)
    · replace h := ite_t hc116 h
      cases h
      exact V.pick [0] rfl (hE _ hg)
    · replace h := ite_f hc116 h
      refine V.aload_n d_St_find_119 rfl 0 rfl ?_
      refine V.getI ok_St fl_St_23 (by decide) (by decide) ly_41 rfl d_St_find_120 ?_
      refine V.ldc (v := 268435456) kc_St_22 d_St_find_123 ?_
      refine V.icmp_ge (tgt := 156) d_St_find_125 (by decide) (fun hc125 => ?_) (fun hc125 => ?_)
      · replace h := ite_t hc125 h
        cases h
        exact V.pick [0] rfl (hE _ hg)
      · replace h := ite_f hc125 h
        refine V.aload_n d_St_find_128 rfl 0 rfl ?_
        refine V.getR (r := 43) ok_St fl_St_15 (by decide) (by decide) ly_41 rfl d_St_find_129 ?_
        refine V.iload d_St_find_132 2 rfl ?_
        refine V.aload_n d_St_find_134 rfl 0 rfl ?_
        refine V.iload d_St_find_135 2 rfl ?_
        refine V.aload_n d_St_find_137 rfl 0 rfl ?_
        refine V.getR (r := 43) ok_St fl_St_15 (by decide) (by decide) ly_41 rfl d_St_find_138 ?_
        refine V.iload d_St_find_141 2 rfl ?_
        refine V.iconst (v := 1) d_St_find_143 (by decide) ?_
        refine V.isub d_St_find_144 ?_
        obtain ⟨gq, h⟩ := grd_e h
        refine V.ra (by decide) ly_43 (inb_e gq) rfl d_St_find_145 ?_
        obtain ⟨r146, h1, h⟩ := bnd1_e h
        refine V.vI (as := [.int x5, .int (mI σ 43 ((x5 - 1).toNatClampNeg))]) (st := [.int x5, rf Z 43]) (c_St_bestAfter Z h1) k_St_bestAfter lk_St_36 (by decide) rfl (by decide) ly_41 ok_St.1 rfl (Nat.le_of_ble_eq_true rfl) d_St_find_146 ?_
        obtain ⟨gq, h⟩ := grd_e h
        obtain ⟨σ149, e_σ149, h⟩ := letv_e h
        refine V.wa (by decide) ly_43 (inb_e gq) rfl d_St_find_149 e_σ149 ?_
        obtain ⟨v150, e_v150, h⟩ := letv_e h
        refine V.iinc (v := v150) (lv' := [(5, .int v150), (0, rf Z 41), (4, .int a4)]) d_St_find_150 2 rfl (by rw [e_v150]; rfl) (by decide) rfl ?_
        refine V.goto (tgt := 112) d_St_find_153 (by decide) ?_
        exact V.pick [1, 2, 0] rfl (ih _ _ _ h hg)
def f_St_find (N : Nat) (σ : Mem) (a2 : Int32) (a3 : Int32) : Option (Int32 × Mem) :=
  letv (sI σ 41 2 a2) fun σ2 =>
  letv (sI σ2 41 3 268435456) fun σ8 =>
  bnd1 (f_JM_min_7cf53 12 (a3 - a2)) fun r16 =>
  letv (r16 - 1) fun v25 =>
  bnd1 (L_St_find_l27 N r16 N v25 σ8) fun σ27_ =>
  bnd1 (L_St_find_l62 N r16 N 0 σ27_) fun σ62_ =>
  bnd1 (L_St_find_l112 N r16 N 1 σ62_) fun σ112_ =>
  if 268435456 ≤ (mI σ112_ 41 3) then
    (some (0, σ112_))
  else
    (some (1, σ112_))
set_option maxHeartbeats 4000000 in
set_option maxRecDepth 20000 in
theorem c_St_find (Z : ZX) {N : Nat} {σ : Mem} {a2 : Int32} {a3 : Int32} {r : Int32} {σ' : Mem} (h : f_St_find N σ a2 a3 = some (r, σ')) : CI Z 5 m_St_find [rf Z 41, rf Z 33, .int a2, .int a3] σ r σ' := by
  refine Ct.of (by decide +kernel) (Nat.le_of_ble_eq_true rfl) (fun Y => ?_)
  show V (mkB Z) Y m_St_find 5 (QP (mkB Z) Y nC 0 0 (fun v t => v = some (.int r) ∧ t = σ')) 0 0 nC σ 0 [(0, rf Z 41), (1, rf Z 33), (2, .int a2), (3, .int a3)] []
  unfold f_St_find at h
  refine V.aload_n d_St_find_0 rfl 0 rfl ?_
  refine V.iload_n d_St_find_1 rfl 2 rfl ?_
  obtain ⟨σ2, e_σ2, h⟩ := letv_e h
  refine V.putI ok_St fl_St_18 (by decide) (by decide) ly_41 rfl rfl rfl rfl d_St_find_2 (V.mem e_σ2 ?_)
  refine V.aload_n d_St_find_5 rfl 0 rfl ?_
  refine V.ldc (v := 268435456) kc_St_22 d_St_find_6 ?_
  obtain ⟨σ8, e_σ8, h⟩ := letv_e h
  refine V.putI ok_St fl_St_23 (by decide) (by decide) ly_41 rfl rfl rfl rfl d_St_find_8 (V.mem e_σ8 ?_)
  refine V.bipush (v := 12) d_St_find_11 (by decide) ?_
  refine V.iload_n d_St_find_13 rfl 3 rfl ?_
  refine V.iload_n d_St_find_14 rfl 2 rfl ?_
  refine V.isub d_St_find_15 ?_
  obtain ⟨r16, h1, h⟩ := bnd1_e h
  refine V.sI (as := [.int 12, .int (a3 - a2)]) (st := []) (c_JM_min_7cf53 Z h1) k_JM_min_7cf53 lk_St_26 (by decide) rfl rfl (Nat.le_of_ble_eq_true rfl) d_St_find_16 ?_
  refine V.istore (lv' := [(4, .int r16), (0, rf Z 41), (1, rf Z 33), (2, .int a2), (3, .int a3)]) d_St_find_19 (by decide) rfl ?_
  refine V.iload d_St_find_21 0 rfl ?_
  refine V.iconst (v := 1) d_St_find_23 (by decide) ?_
  refine V.isub d_St_find_24 ?_
  obtain ⟨v25, e_v25, h⟩ := letv_e h
  refine V.topI e_v25 ?_
  refine V.istore (lv' := [(5, .int v25), (4, .int r16), (0, rf Z 41), (1, rf Z 33), (2, .int a2), (3, .int a3)]) d_St_find_25 (by decide) rfl ?_
  obtain ⟨x27_, h1, h⟩ := bnd1_e h
  refine V.pick [2, 3, 1, 0] rfl (cL_St_find_l27 Z (Good := fun z => x27_ = z) (fun σ27_ he => ?_) N _ _ _ h1 rfl)
  · rw [he] at h
    refine V.iconst (v := 0) d_St_find_59 (by decide) ?_
    refine V.istore (lv' := [(5, .int 0), (0, rf Z 41), (4, .int r16)]) d_St_find_60 (by decide) rfl ?_
    obtain ⟨x62_, h1, h⟩ := bnd1_e h
    refine V.pick [1, 2, 0] rfl (cL_St_find_l62 Z (Good := fun z => x62_ = z) (fun σ62_ he => ?_) N _ _ _ h1 rfl)
    · rw [he] at h
      refine V.iconst (v := 1) d_St_find_109 (by decide) ?_
      refine V.istore (lv' := [(5, .int 1), (0, rf Z 41), (4, .int r16)]) d_St_find_110 (by decide) rfl ?_
      obtain ⟨x112_, h1, h⟩ := bnd1_e h
      refine V.pick [1, 2, 0] rfl (cL_St_find_l112 Z (Good := fun z => x112_ = z) (fun σ112_ he => ?_) N _ _ _ h1 rfl)
      · rw [he] at h
        refine V.aload_n d_St_find_156 rfl 0 rfl ?_
        refine V.getI ok_St fl_St_23 (by decide) (by decide) ly_41 rfl d_St_find_157 ?_
        refine V.ldc (v := 268435456) kc_St_22 d_St_find_160 ?_
        refine V.icmp_ge (tgt := 169) d_St_find_162 (by decide) (fun hc162 => ?_) (fun hc162 => ?_)
        · replace h := ite_t hc162 h
          refine V.iconst (v := 0) d_St_find_169 (by decide) ?_
          cases h
          exact V.zret rfl rfl d_St_find_170 ⟨rfl, rfl⟩
        · replace h := ite_f hc162 h
          refine V.iconst (v := 1) d_St_find_165 (by decide) ?_
          refine V.goto (tgt := 170) d_St_find_166 (by decide) ?_
          cases h
          exact V.zret rfl rfl d_St_find_170 ⟨rfl, rfl⟩
abbrev m_St_squareIn : MI := (⟨"ShadeTown$Strips", "squareIn", "(I)I"⟩, prog_7_method_5_code, 3, (Option.some Jvm.ClassFile.FieldType.int))
theorem d_St_squareIn_0 : decode prog_7_method_5_code 0 = .ok (.iload_n 1, 1) := by decide +kernel
theorem d_St_squareIn_1 : decode prog_7_method_5_code 1 = .ok (.aload_n 0, 1) := by decide +kernel
theorem d_St_squareIn_2 : decode prog_7_method_5_code 2 = .ok (.getfield 18, 3) := by decide +kernel
theorem d_St_squareIn_5 : decode prog_7_method_5_code 5 = .ok (.isub, 1) := by decide +kernel
theorem d_St_squareIn_6 : decode prog_7_method_5_code 6 = .ok (.istore_n 2, 1) := by decide +kernel
theorem d_St_squareIn_7 : decode prog_7_method_5_code 7 = .ok (.iload_n 2, 1) := by decide +kernel
theorem d_St_squareIn_26 : decode prog_7_method_5_code 26 = .ok (.iconst (-1), 1) := by decide +kernel
theorem d_St_squareIn_27 : decode prog_7_method_5_code 27 = .ok (.ireturn, 1) := by decide +kernel
theorem d_St_squareIn_11 : decode prog_7_method_5_code 11 = .ok (.iload_n 2, 1) := by decide +kernel
theorem d_St_squareIn_12 : decode prog_7_method_5_code 12 = .ok (.bipush 12, 2) := by decide +kernel
theorem d_St_squareIn_17 : decode prog_7_method_5_code 17 = .ok (.aload_n 0, 1) := by decide +kernel
theorem d_St_squareIn_18 : decode prog_7_method_5_code 18 = .ok (.getfield 15, 3) := by decide +kernel
theorem d_St_squareIn_21 : decode prog_7_method_5_code 21 = .ok (.iload_n 2, 1) := by decide +kernel
theorem d_St_squareIn_22 : decode prog_7_method_5_code 22 = .ok (.iaload, 1) := by decide +kernel
theorem d_St_squareIn_23 : decode prog_7_method_5_code 23 = .ok (.goto 4, 3) := by decide +kernel
theorem d_St_squareIn_14 : decode prog_7_method_5_code 14 = .ok (.if_icmp .ge 12, 3) := by decide +kernel
theorem d_St_squareIn_8 : decode prog_7_method_5_code 8 = .ok (.ifCond .lt 18, 3) := by decide +kernel
def f_St_squareIn (σ : Mem) (a1 : Int32) : Option (Int32) :=
  letv (a1 - (mI σ 41 2)) fun v6 =>
  if v6 < 0 then
    (some (-1))
  else
    (if 12 ≤ v6 then
      (some (-1))
    else
      (grd (inb v6 12) <|
      some (mI σ 43 (v6.toNatClampNeg))))
set_option maxHeartbeats 4000000 in
set_option maxRecDepth 20000 in
theorem c_St_squareIn (Z : ZX) {σ : Mem} {a1 : Int32} {r : Int32} (h : f_St_squareIn σ a1 = some r) : CI Z 0 m_St_squareIn [rf Z 41, .int a1] σ r σ := by
  refine Ct.of (by decide +kernel) (Nat.le_of_ble_eq_true rfl) (fun Y => ?_)
  show V (mkB Z) Y m_St_squareIn 0 (QP (mkB Z) Y nC 0 0 (fun v t => v = some (.int r) ∧ t = σ)) 0 0 nC σ 0 [(0, rf Z 41), (1, .int a1)] []
  unfold f_St_squareIn at h
  refine V.iload_n d_St_squareIn_0 rfl 1 rfl ?_
  refine V.aload_n d_St_squareIn_1 rfl 0 rfl ?_
  refine V.getI ok_St fl_St_18 (by decide) (by decide) ly_41 rfl d_St_squareIn_2 ?_
  refine V.isub d_St_squareIn_5 ?_
  obtain ⟨v6, e_v6, h⟩ := letv_e h
  refine V.topI e_v6 ?_
  refine V.istore_n (lv' := [(2, .int v6), (0, rf Z 41), (1, .int a1)]) d_St_squareIn_6 rfl (by decide) rfl ?_
  refine V.iload_n d_St_squareIn_7 rfl 0 rfl ?_
  refine V.if_lt (tgt := 26) d_St_squareIn_8 (by decide) (fun hc8 => ?_) (fun hc8 => ?_)
  · replace h := ite_t hc8 h
    refine V.iconst (v := (-1)) d_St_squareIn_26 (by decide) ?_
    cases h
    exact V.iret rfl d_St_squareIn_27 ⟨rfl, rfl⟩
  · replace h := ite_f hc8 h
    refine V.iload_n d_St_squareIn_11 rfl 0 rfl ?_
    refine V.bipush (v := 12) d_St_squareIn_12 (by decide) ?_
    refine V.icmp_ge (tgt := 26) d_St_squareIn_14 (by decide) (fun hc14 => ?_) (fun hc14 => ?_)
    · replace h := ite_t hc14 h
      refine V.iconst (v := (-1)) d_St_squareIn_26 (by decide) ?_
      cases h
      exact V.iret rfl d_St_squareIn_27 ⟨rfl, rfl⟩
    · replace h := ite_f hc14 h
      refine V.aload_n d_St_squareIn_17 rfl 1 rfl ?_
      refine V.getR (r := 43) ok_St fl_St_15 (by decide) (by decide) ly_41 rfl d_St_squareIn_18 ?_
      refine V.iload_n d_St_squareIn_21 rfl 0 rfl ?_
      obtain ⟨gq, h⟩ := grd_e h
      refine V.ra (by decide) ly_43 (inb_e gq) rfl d_St_squareIn_22 ?_
      refine V.goto (tgt := 27) d_St_squareIn_23 (by decide) ?_
      cases h
      exact V.iret rfl d_St_squareIn_27 ⟨rfl, rfl⟩
abbrev m_St_moves : MI := (⟨"ShadeTown$Strips", "moves", "()I"⟩, prog_7_method_4_code, 1, (Option.some Jvm.ClassFile.FieldType.int))
theorem d_St_moves_0 : decode prog_7_method_4_code 0 = .ok (.aload_n 0, 1) := by decide +kernel
theorem d_St_moves_1 : decode prog_7_method_4_code 1 = .ok (.getfield 23, 3) := by decide +kernel
theorem d_St_moves_4 : decode prog_7_method_4_code 4 = .ok (.bipush 16, 2) := by decide +kernel
theorem d_St_moves_6 : decode prog_7_method_4_code 6 = .ok (.irem, 1) := by decide +kernel
theorem d_St_moves_7 : decode prog_7_method_4_code 7 = .ok (.ireturn, 1) := by decide +kernel
def f_St_moves (σ : Mem) : Option (Int32) :=
  some ((mI σ 41 3) - (mI σ 41 3) / 16 * 16)
set_option maxHeartbeats 4000000 in
set_option maxRecDepth 20000 in
theorem c_St_moves (Z : ZX) {σ : Mem} {r : Int32} (h : f_St_moves σ = some r) : CI Z 0 m_St_moves [rf Z 41] σ r σ := by
  refine Ct.of (by decide +kernel) (Nat.le_of_ble_eq_true rfl) (fun Y => ?_)
  show V (mkB Z) Y m_St_moves 0 (QP (mkB Z) Y nC 0 0 (fun v t => v = some (.int r) ∧ t = σ)) 0 0 nC σ 0 [(0, rf Z 41)] []
  unfold f_St_moves at h
  refine V.aload_n d_St_moves_0 rfl 0 rfl ?_
  refine V.getI ok_St fl_St_23 (by decide) (by decide) ly_41 rfl d_St_moves_1 ?_
  refine V.bipush (v := 16) d_St_moves_4 (by decide) ?_
  refine V.irem d_St_moves_6 (by decide) ?_
  cases h
  exact V.iret rfl d_St_moves_7 ⟨rfl, rfl⟩
abbrev m_St_prices : MI := (⟨"ShadeTown$Strips", "prices", "()I"⟩, prog_7_method_3_code, 1, (Option.some Jvm.ClassFile.FieldType.int))
theorem d_St_prices_0 : decode prog_7_method_3_code 0 = .ok (.aload_n 0, 1) := by decide +kernel
theorem d_St_prices_1 : decode prog_7_method_3_code 1 = .ok (.getfield 23, 3) := by decide +kernel
theorem d_St_prices_4 : decode prog_7_method_3_code 4 = .ok (.bipush 16, 2) := by decide +kernel
theorem d_St_prices_6 : decode prog_7_method_3_code 6 = .ok (.idiv, 1) := by decide +kernel
theorem d_St_prices_7 : decode prog_7_method_3_code 7 = .ok (.ireturn, 1) := by decide +kernel
def f_St_prices (σ : Mem) : Option (Int32) :=
  some ((mI σ 41 3) / 16)
set_option maxHeartbeats 4000000 in
set_option maxRecDepth 20000 in
theorem c_St_prices (Z : ZX) {σ : Mem} {r : Int32} (h : f_St_prices σ = some r) : CI Z 0 m_St_prices [rf Z 41] σ r σ := by
  refine Ct.of (by decide +kernel) (Nat.le_of_ble_eq_true rfl) (fun Y => ?_)
  show V (mkB Z) Y m_St_prices 0 (QP (mkB Z) Y nC 0 0 (fun v t => v = some (.int r) ∧ t = σ)) 0 0 nC σ 0 [(0, rf Z 41)] []
  unfold f_St_prices at h
  refine V.aload_n d_St_prices_0 rfl 0 rfl ?_
  refine V.getI ok_St fl_St_23 (by decide) (by decide) ly_41 rfl d_St_prices_1 ?_
  refine V.bipush (v := 16) d_St_prices_4 (by decide) ?_
  refine V.idiv d_St_prices_6 (by decide) ?_
  cases h
  exact V.iret rfl d_St_prices_7 ⟨rfl, rfl⟩
abbrev m_Sh_strip : MI := (⟨"ShadeTown", "strip", "(III)I"⟩, prog_1_method_17_code, 5, (Option.some Jvm.ClassFile.FieldType.int))
theorem d_Sh_strip_0 : decode prog_1_method_17_code 0 = .ok (.iload_n 3, 1) := by decide +kernel
theorem d_Sh_strip_1 : decode prog_1_method_17_code 1 = .ok (.iconst (-1), 1) := by decide +kernel
theorem d_Sh_strip_5 : decode prog_1_method_17_code 5 = .ok (.iload_n 3, 1) := by decide +kernel
theorem d_Sh_strip_6 : decode prog_1_method_17_code 6 = .ok (.bipush 30, 2) := by decide +kernel
theorem d_Sh_strip_11 : decode prog_1_method_17_code 11 = .ok (.iload_n 3, 1) := by decide +kernel
theorem d_Sh_strip_12 : decode prog_1_method_17_code 12 = .ok (.iload_n 1, 1) := by decide +kernel
theorem d_Sh_strip_16 : decode prog_1_method_17_code 16 = .ok (.iload_n 3, 1) := by decide +kernel
theorem d_Sh_strip_17 : decode prog_1_method_17_code 17 = .ok (.iload_n 2, 1) := by decide +kernel
theorem d_Sh_strip_18 : decode prog_1_method_17_code 18 = .ok (.if_icmp .ge 7, 3) := by decide +kernel
theorem d_Sh_strip_13 : decode prog_1_method_17_code 13 = .ok (.if_icmp .lt 12, 3) := by decide +kernel
theorem d_Sh_strip_8 : decode prog_1_method_17_code 8 = .ok (.if_icmp .eq 13, 3) := by decide +kernel
theorem d_Sh_strip_2 : decode prog_1_method_17_code 2 = .ok (.if_icmp .eq 19, 3) := by decide +kernel
theorem d_Sh_strip_21 : decode prog_1_method_17_code 21 = .ok (.iconst 1, 1) := by decide +kernel
theorem d_Sh_strip_22 : decode prog_1_method_17_code 22 = .ok (.goto 4, 3) := by decide +kernel
theorem d_Sh_strip_25 : decode prog_1_method_17_code 25 = .ok (.iconst 0, 1) := by decide +kernel
theorem d_Sh_strip_26 : decode prog_1_method_17_code 26 = .ok (.istore 4, 2) := by decide +kernel
theorem d_Sh_strip_28 : decode prog_1_method_17_code 28 = .ok (.iload_n 1, 1) := by decide +kernel
theorem d_Sh_strip_29 : decode prog_1_method_17_code 29 = .ok (.iload_n 2, 1) := by decide +kernel
theorem d_Sh_strip_30 : decode prog_1_method_17_code 30 = .ok (.bipush 12, 2) := by decide +kernel
theorem d_Sh_strip_32 : decode prog_1_method_17_code 32 = .ok (.invokestatic 227, 3) := by decide +kernel
theorem k_Sh_areHours : MOk m_Sh_areHours 3 ∧ Cond.static m_Sh_areHours.1 ∈ tblG := ⟨⟨atG 929 (by decide +kernel) rfl, atG 111 (by decide +kernel) rfl, ⟨by decide, by decide⟩, by decide +kernel, by decide⟩, atG 928 (by decide +kernel) rfl⟩
theorem lk_Sh_227 : Cond.methodLink "ShadeTown" 227 ⟨"ShadeTown", "areHours", "(III)Z"⟩ ∈ tblG := atG 927 (by decide +kernel) rfl
theorem d_Sh_strip_43 : decode prog_1_method_17_code 43 = .ok (.bipush (-3), 2) := by decide +kernel
theorem d_Sh_strip_45 : decode prog_1_method_17_code 45 = .ok (.ireturn, 1) := by decide +kernel
theorem d_Sh_strip_38 : decode prog_1_method_17_code 38 = .ok (.iload 4, 2) := by decide +kernel
theorem d_Sh_strip_46 : decode prog_1_method_17_code 46 = .ok (.aload_n 0, 1) := by decide +kernel
theorem fl_Sh_61 : FL "ShadeTown" 61 T_Sh 8 := atG 427 (by decide +kernel) rfl
theorem d_Sh_strip_47 : decode prog_1_method_17_code 47 = .ok (.getfield 61, 3) := by decide +kernel
theorem d_Sh_strip_50 : decode prog_1_method_17_code 50 = .ok (.aload_n 0, 1) := by decide +kernel
theorem d_Sh_strip_51 : decode prog_1_method_17_code 51 = .ok (.invokevirtual 181, 3) := by decide +kernel
theorem d_Sh_strip_54 : decode prog_1_method_17_code 54 = .ok (.iload_n 1, 1) := by decide +kernel
theorem d_Sh_strip_55 : decode prog_1_method_17_code 55 = .ok (.iload_n 2, 1) := by decide +kernel
theorem d_Sh_strip_56 : decode prog_1_method_17_code 56 = .ok (.invokevirtual 231, 3) := by decide +kernel
theorem k_St_find : MOk m_St_find 3 ∧ IOk m_St_find := ⟨⟨atG 933 (by decide +kernel) rfl, atG 117 (by decide +kernel) rfl, ⟨by decide, by decide⟩, by decide +kernel, by decide⟩, atG 931 (by decide +kernel) rfl, atG 932 (by decide +kernel) rfl⟩
theorem lk_Sh_231 : Cond.methodLink "ShadeTown" 231 ⟨"ShadeTown$Strips", "find", "(LShadeTown$Day;II)Z"⟩ ∈ tblG := atG 930 (by decide +kernel) rfl
theorem d_Sh_strip_65 : decode prog_1_method_17_code 65 = .ok (.iload_n 3, 1) := by decide +kernel
theorem d_Sh_strip_66 : decode prog_1_method_17_code 66 = .ok (.iconst (-1), 1) := by decide +kernel
theorem d_Sh_strip_78 : decode prog_1_method_17_code 78 = .ok (.iload_n 3, 1) := by decide +kernel
theorem d_Sh_strip_79 : decode prog_1_method_17_code 79 = .ok (.bipush 30, 2) := by decide +kernel
theorem d_Sh_strip_94 : decode prog_1_method_17_code 94 = .ok (.aload_n 0, 1) := by decide +kernel
theorem d_Sh_strip_95 : decode prog_1_method_17_code 95 = .ok (.getfield 61, 3) := by decide +kernel
theorem d_Sh_strip_98 : decode prog_1_method_17_code 98 = .ok (.iload_n 3, 1) := by decide +kernel
theorem d_Sh_strip_99 : decode prog_1_method_17_code 99 = .ok (.invokevirtual 241, 3) := by decide +kernel
theorem k_St_squareIn : MOk m_St_squareIn 1 ∧ IOk m_St_squareIn := ⟨⟨atG 965 (by decide +kernel) rfl, atG 117 (by decide +kernel) rfl, ⟨by decide, by decide⟩, by decide +kernel, by decide⟩, atG 963 (by decide +kernel) rfl, atG 964 (by decide +kernel) rfl⟩
theorem lk_Sh_241 : Cond.methodLink "ShadeTown" 241 ⟨"ShadeTown$Strips", "squareIn", "(I)I"⟩ ∈ tblG := atG 962 (by decide +kernel) rfl
theorem d_Sh_strip_102 : decode prog_1_method_17_code 102 = .ok (.ireturn, 1) := by decide +kernel
theorem d_Sh_strip_84 : decode prog_1_method_17_code 84 = .ok (.aload_n 0, 1) := by decide +kernel
theorem d_Sh_strip_85 : decode prog_1_method_17_code 85 = .ok (.getfield 61, 3) := by decide +kernel
theorem d_Sh_strip_88 : decode prog_1_method_17_code 88 = .ok (.invokevirtual 238, 3) := by decide +kernel
theorem k_St_moves : MOk m_St_moves 0 ∧ IOk m_St_moves := ⟨⟨atG 961 (by decide +kernel) rfl, atG 117 (by decide +kernel) rfl, ⟨by decide, by decide⟩, by decide +kernel, by decide⟩, atG 959 (by decide +kernel) rfl, atG 960 (by decide +kernel) rfl⟩
theorem lk_Sh_238 : Cond.methodLink "ShadeTown" 238 ⟨"ShadeTown$Strips", "moves", "()I"⟩ ∈ tblG := atG 958 (by decide +kernel) rfl
theorem d_Sh_strip_91 : decode prog_1_method_17_code 91 = .ok (.goto 11, 3) := by decide +kernel
theorem d_Sh_strip_81 : decode prog_1_method_17_code 81 = .ok (.if_icmp .ne 13, 3) := by decide +kernel
theorem d_Sh_strip_70 : decode prog_1_method_17_code 70 = .ok (.aload_n 0, 1) := by decide +kernel
theorem d_Sh_strip_71 : decode prog_1_method_17_code 71 = .ok (.getfield 61, 3) := by decide +kernel
theorem d_Sh_strip_74 : decode prog_1_method_17_code 74 = .ok (.invokevirtual 235, 3) := by decide +kernel
theorem k_St_prices : MOk m_St_prices 0 ∧ IOk m_St_prices := ⟨⟨atG 957 (by decide +kernel) rfl, atG 117 (by decide +kernel) rfl, ⟨by decide, by decide⟩, by decide +kernel, by decide⟩, atG 955 (by decide +kernel) rfl, atG 956 (by decide +kernel) rfl⟩
theorem lk_Sh_235 : Cond.methodLink "ShadeTown" 235 ⟨"ShadeTown$Strips", "prices", "()I"⟩ ∈ tblG := atG 954 (by decide +kernel) rfl
theorem d_Sh_strip_77 : decode prog_1_method_17_code 77 = .ok (.ireturn, 1) := by decide +kernel
theorem d_Sh_strip_67 : decode prog_1_method_17_code 67 = .ok (.if_icmp .ne 11, 3) := by decide +kernel
theorem d_Sh_strip_62 : decode prog_1_method_17_code 62 = .ok (.bipush (-2), 2) := by decide +kernel
theorem d_Sh_strip_64 : decode prog_1_method_17_code 64 = .ok (.ireturn, 1) := by decide +kernel
theorem d_Sh_strip_59 : decode prog_1_method_17_code 59 = .ok (.ifCond .ne 6, 3) := by decide +kernel
theorem d_Sh_strip_40 : decode prog_1_method_17_code 40 = .ok (.ifCond .ne 6, 3) := by decide +kernel
theorem d_Sh_strip_35 : decode prog_1_method_17_code 35 = .ok (.ifCond .eq 8, 3) := by decide +kernel
def f_Sh_strip (N : Nat) (σ : Mem) (a1 : Int32) (a2 : Int32) (a3 : Int32) : Option (Int32 × Mem) :=
  bnd1 ((
    bnd1 ((
      if a3 = (-1) then
        (some 0)
      else
        (if a3 = 30 then
          (some 0)
        else
          (if a3 < a1 then
            (some 1)
          else
            (if a2 ≤ a3 then
              (some 1)
            else
              (some 0))))) : Option (Nat)) fun t2b =>
    if t2b = 0 then
      (some 1)
    else
    (some 0)) : Option (Int32)) fun y2_s0 =>
  bnd1 (f_Sh_areHours a1 a2 12) fun r32 =>
  if r32 = 0 then
    (some ((-3), σ))
  else
    (if y2_s0 = 0 then
      (some ((-3), σ))
    else
      (bnd1 (f_Sh_today N σ) fun σ51 =>
      bnd2 (f_St_find N σ51 a1 a2) fun r56 σ56 =>
      if r56 = 0 then
        (some ((-2), σ56))
      else
        (if a3 = (-1) then
          (bnd1 (f_St_prices σ56) fun r74 =>
          some (r74, σ56))
        else
          (if a3 = 30 then
            (bnd1 (f_St_moves σ56) fun r88 =>
            some (r88, σ56))
          else
            (bnd1 (f_St_squareIn σ56 a3) fun r99 =>
            some (r99, σ56))))))
set_option maxHeartbeats 4000000 in
set_option maxRecDepth 20000 in
theorem c_Sh_strip (Z : ZX) {N : Nat} {σ : Mem} {a1 : Int32} {a2 : Int32} {a3 : Int32} {r : Int32} {σ' : Mem} (h : f_Sh_strip N σ a1 a2 a3 = some (r, σ')) : CI Z 6 m_Sh_strip [rf Z 0, .int a1, .int a2, .int a3] σ r σ' := by
  refine Ct.of (by decide +kernel) (Nat.le_of_ble_eq_true rfl) (fun Y => ?_)
  show V (mkB Z) Y m_Sh_strip 6 (QP (mkB Z) Y nC 0 0 (fun v t => v = some (.int r) ∧ t = σ')) 0 0 nC σ 0 [(0, rf Z 0), (1, .int a1), (2, .int a2), (3, .int a3)] []
  unfold f_Sh_strip at h
  refine V.iload_n d_Sh_strip_0 rfl 3 rfl ?_
  refine V.iconst (v := (-1)) d_Sh_strip_1 (by decide) ?_
  obtain ⟨s2, h1, h⟩ := bnd1_e h
  have J2_26 : ∀ (y2_s0 : Int32), s2 = y2_s0 → V (mkB Z) Y m_Sh_strip 6 (QP (mkB Z) Y nC 0 0 (fun v t => v = some (.int r) ∧ t = σ')) 0 0 nC σ 26 [(0, rf Z 0), (1, .int a1), (2, .int a2), (3, .int a3)] [.int y2_s0] := by
    intro y2_s0 he
    rw [he] at h
    refine V.istore (lv' := [(4, .int y2_s0), (0, rf Z 0), (1, .int a1), (2, .int a2), (3, .int a3)]) d_Sh_strip_26 (by decide) rfl ?_
    refine V.iload_n d_Sh_strip_28 rfl 2 rfl ?_
    refine V.iload_n d_Sh_strip_29 rfl 3 rfl ?_
    refine V.bipush (v := 12) d_Sh_strip_30 (by decide) ?_
    obtain ⟨r32, h1, h⟩ := bnd1_e h
    refine V.sI (as := [.int a1, .int a2, .int 12]) (st := []) (c_Sh_areHours Z h1) k_Sh_areHours lk_Sh_227 (by decide) rfl rfl (Nat.le_of_ble_eq_true rfl) d_Sh_strip_32 ?_
    refine V.if_eq (tgt := 43) d_Sh_strip_35 (by decide) (fun hc35 => ?_) (fun hc35 => ?_)
    · replace h := ite_t hc35 h
      refine V.bipush (v := (-3)) d_Sh_strip_43 (by decide) ?_
      cases h
      exact V.iret rfl d_Sh_strip_45 ⟨rfl, rfl⟩
    · replace h := ite_f hc35 h
      refine V.iload d_Sh_strip_38 0 rfl ?_
      refine V.if_ne (tgt := 46) d_Sh_strip_40 (by decide) (fun hc40 => ?_) (fun hc40 => ?_)
      · replace h := ite_f hc40 h
        refine V.aload_n d_Sh_strip_46 rfl 1 rfl ?_
        refine V.getR (r := 41) ok_Sh fl_Sh_61 (by decide) (by decide) ly_0 rfl d_Sh_strip_47 ?_
        refine V.aload_n d_Sh_strip_50 rfl 1 rfl ?_
        obtain ⟨σ51, h1, h⟩ := bnd1_e h
        refine V.vA (as := []) (st := [rf Z 41]) (c_Sh_today Z h1) k_Sh_today lk_Sh_181 (by decide) rfl (by decide) ly_0 ok_Sh.1 rfl (Nat.le_of_ble_eq_true rfl) d_Sh_strip_51 ?_
        refine V.iload_n d_Sh_strip_54 rfl 2 rfl ?_
        refine V.iload_n d_Sh_strip_55 rfl 3 rfl ?_
        obtain ⟨r56, σ56, h1, h⟩ := bnd2_e h
        refine V.vI (as := [rf Z 33, .int a1, .int a2]) (st := []) (c_St_find Z h1) k_St_find lk_Sh_231 (by decide) rfl (by decide) ly_41 ok_St.1 rfl (Nat.le_of_ble_eq_true rfl) d_Sh_strip_56 ?_
        refine V.if_ne (tgt := 65) d_Sh_strip_59 (by decide) (fun hc59 => ?_) (fun hc59 => ?_)
        · replace h := ite_f hc59 h
          refine V.iload_n d_Sh_strip_65 rfl 4 rfl ?_
          refine V.iconst (v := (-1)) d_Sh_strip_66 (by decide) ?_
          refine V.icmp_ne (tgt := 78) d_Sh_strip_67 (by decide) (fun hc67 => ?_) (fun hc67 => ?_)
          · replace h := ite_f hc67 h
            refine V.iload_n d_Sh_strip_78 rfl 4 rfl ?_
            refine V.bipush (v := 30) d_Sh_strip_79 (by decide) ?_
            refine V.icmp_ne (tgt := 94) d_Sh_strip_81 (by decide) (fun hc81 => ?_) (fun hc81 => ?_)
            · replace h := ite_f hc81 h
              refine V.aload_n d_Sh_strip_94 rfl 1 rfl ?_
              refine V.getR (r := 41) ok_Sh fl_Sh_61 (by decide) (by decide) ly_0 rfl d_Sh_strip_95 ?_
              refine V.iload_n d_Sh_strip_98 rfl 4 rfl ?_
              obtain ⟨r99, h1, h⟩ := bnd1_e h
              refine V.vI (as := [.int a3]) (st := []) (c_St_squareIn Z h1) k_St_squareIn lk_Sh_241 (by decide) rfl (by decide) ly_41 ok_St.1 rfl (Nat.le_of_ble_eq_true rfl) d_Sh_strip_99 ?_
              cases h
              exact V.iret rfl d_Sh_strip_102 ⟨rfl, rfl⟩
            · replace h := ite_t hc81 h
              refine V.aload_n d_Sh_strip_84 rfl 1 rfl ?_
              refine V.getR (r := 41) ok_Sh fl_Sh_61 (by decide) (by decide) ly_0 rfl d_Sh_strip_85 ?_
              obtain ⟨r88, h1, h⟩ := bnd1_e h
              refine V.vI (as := []) (st := []) (c_St_moves Z h1) k_St_moves lk_Sh_238 (by decide) rfl (by decide) ly_41 ok_St.1 rfl (Nat.le_of_ble_eq_true rfl) d_Sh_strip_88 ?_
              refine V.goto (tgt := 102) d_Sh_strip_91 (by decide) ?_
              cases h
              exact V.iret rfl d_Sh_strip_102 ⟨rfl, rfl⟩
          · replace h := ite_t hc67 h
            refine V.aload_n d_Sh_strip_70 rfl 1 rfl ?_
            refine V.getR (r := 41) ok_Sh fl_Sh_61 (by decide) (by decide) ly_0 rfl d_Sh_strip_71 ?_
            obtain ⟨r74, h1, h⟩ := bnd1_e h
            refine V.vI (as := []) (st := []) (c_St_prices Z h1) k_St_prices lk_Sh_235 (by decide) rfl (by decide) ly_41 ok_St.1 rfl (Nat.le_of_ble_eq_true rfl) d_Sh_strip_74 ?_
            cases h
            exact V.iret rfl d_Sh_strip_77 ⟨rfl, rfl⟩
        · replace h := ite_t hc59 h
          refine V.bipush (v := (-2)) d_Sh_strip_62 (by decide) ?_
          cases h
          exact V.iret rfl d_Sh_strip_64 ⟨rfl, rfl⟩
      · replace h := ite_t hc40 h
        refine V.bipush (v := (-3)) d_Sh_strip_43 (by decide) ?_
        cases h
        exact V.iret rfl d_Sh_strip_45 ⟨rfl, rfl⟩
  replace h := h1
  obtain ⟨s2b, h1, h⟩ := bnd1_e h
  have J2b_21 : s2b = 0 → V (mkB Z) Y m_Sh_strip 6 (QP (mkB Z) Y nC 0 0 (fun v t => v = some (.int r) ∧ t = σ')) 0 0 nC σ 21 [(0, rf Z 0), (1, .int a1), (2, .int a2), (3, .int a3)] [] := by
    intro he
    rw [he] at h
    replace h := ite_t rfl h
    refine V.iconst (v := 1) d_Sh_strip_21 (by decide) ?_
    refine V.goto (tgt := 26) d_Sh_strip_22 (by decide) ?_
    exact V.pick [0, 1, 2, 3] rfl (J2_26 _ (Option.some.inj h).symm)
  have J2b_25 : s2b = 1 → V (mkB Z) Y m_Sh_strip 6 (QP (mkB Z) Y nC 0 0 (fun v t => v = some (.int r) ∧ t = σ')) 0 0 nC σ 25 [(0, rf Z 0), (1, .int a1), (2, .int a2), (3, .int a3)] [] := by
    intro he
    rw [he] at h
    replace h := ite_f (by decide) h
    refine V.iconst (v := 0) d_Sh_strip_25 (by decide) ?_
    exact V.pick [0, 1, 2, 3] rfl (J2_26 _ (Option.some.inj h).symm)
  replace h := h1
  refine V.icmp_eq (tgt := 21) d_Sh_strip_2 (by decide) (fun hc2 => ?_) (fun hc2 => ?_)
  · replace h := ite_t hc2 h
    exact V.pick [0, 1, 2, 3] rfl (J2b_21 (Option.some.inj h).symm)
  · replace h := ite_f hc2 h
    refine V.iload_n d_Sh_strip_5 rfl 3 rfl ?_
    refine V.bipush (v := 30) d_Sh_strip_6 (by decide) ?_
    refine V.icmp_eq (tgt := 21) d_Sh_strip_8 (by decide) (fun hc8 => ?_) (fun hc8 => ?_)
    · replace h := ite_t hc8 h
      exact V.pick [0, 1, 2, 3] rfl (J2b_21 (Option.some.inj h).symm)
    · replace h := ite_f hc8 h
      refine V.iload_n d_Sh_strip_11 rfl 3 rfl ?_
      refine V.iload_n d_Sh_strip_12 rfl 1 rfl ?_
      refine V.icmp_lt (tgt := 25) d_Sh_strip_13 (by decide) (fun hc13 => ?_) (fun hc13 => ?_)
      · replace h := ite_t hc13 h
        exact V.pick [0, 1, 2, 3] rfl (J2b_25 (Option.some.inj h).symm)
      · replace h := ite_f hc13 h
        refine V.iload_n d_Sh_strip_16 rfl 3 rfl ?_
        refine V.iload_n d_Sh_strip_17 rfl 2 rfl ?_
        refine V.icmp_ge (tgt := 25) d_Sh_strip_18 (by decide) (fun hc18 => ?_) (fun hc18 => ?_)
        · replace h := ite_t hc18 h
          exact V.pick [0, 1, 2, 3] rfl (J2b_25 (Option.some.inj h).symm)
        · replace h := ite_f hc18 h
          exact V.pick [0, 1, 2, 3] rfl (J2b_21 (Option.some.inj h).symm)
abbrev m_Wa_begin : MI := (⟨"ShadeTown$Walks", "begin", "(I)V"⟩, prog_10_method_6_code, 2, (Option.none : Option Jvm.ClassFile.FieldType))
theorem d_Wa_begin_0 : decode prog_10_method_6_code 0 = .ok (.aload_n 0, 1) := by decide +kernel
theorem fl_Wa_9 : FL "ShadeTown$Walks" 9 T_Wa 0 := atG 333 (by decide +kernel) rfl
theorem d_Wa_begin_1 : decode prog_10_method_6_code 1 = .ok (.getfield 9, 3) := by decide +kernel
theorem d_Wa_begin_4 : decode prog_10_method_6_code 4 = .ok (.sipush 1000, 3) := by decide +kernel
theorem d_Wa_begin_7 : decode prog_10_method_6_code 7 = .ok (.invokestatic 33, 3) := by decide +kernel
theorem lk_Wa_33 : Cond.methodLink "ShadeTown$Walks" 33 ⟨"java/util/Arrays", "fill", "([II)V"⟩ ∈ tblG := atG 978 (by decide +kernel) rfl
theorem d_Wa_begin_10 : decode prog_10_method_6_code 10 = .ok (.aload_n 0, 1) := by decide +kernel
theorem d_Wa_begin_11 : decode prog_10_method_6_code 11 = .ok (.getfield 9, 3) := by decide +kernel
theorem d_Wa_begin_14 : decode prog_10_method_6_code 14 = .ok (.iload_n 1, 1) := by decide +kernel
theorem d_Wa_begin_15 : decode prog_10_method_6_code 15 = .ok (.iconst 0, 1) := by decide +kernel
theorem d_Wa_begin_16 : decode prog_10_method_6_code 16 = .ok (.iastore, 1) := by decide +kernel
theorem d_Wa_begin_17 : decode prog_10_method_6_code 17 = .ok (.return_, 1) := by decide +kernel
def f_Wa_begin (N : Nat) (σ : Mem) (a1 : Int32) : Option (Mem) :=
  bnd1 (drf σ 44 0) fun w1 =>
  bnd1 (f_JA_fill_53178 N σ w1 144 1000) fun σ7 =>
  bnd1 (drf σ7 44 0) fun w11 =>
  grd (inb a1 144) <|
  letv (sI σ7 w11 (a1.toNatClampNeg) 0) fun σ16 =>
  some σ16
set_option maxHeartbeats 4000000 in
set_option maxRecDepth 20000 in
theorem c_Wa_begin (Z : ZX) {N : Nat} {σ : Mem} {a1 : Int32} {σ' : Mem} (h : f_Wa_begin N σ a1 = some σ') : CN Z 1 m_Wa_begin [rf Z 44, .int a1] σ σ' := by
  refine Ct.of (by decide +kernel) (Nat.le_of_ble_eq_true rfl) (fun Y => ?_)
  show V (mkB Z) Y m_Wa_begin 1 (QP (mkB Z) Y nC 0 0 (fun v t => v = none ∧ t = σ')) 0 0 nC σ 0 [(0, rf Z 44), (1, .int a1)] []
  unfold f_Wa_begin at h
  refine V.aload_n d_Wa_begin_0 rfl 0 rfl ?_
  obtain ⟨w1, hw, h⟩ := bnd1_e h
  obtain ⟨hr_w1, hk_w1, hy_w1⟩ := drf_e hw
  refine V.getM ok_Wa fl_Wa_9 (by decide) (by decide) ly_44 rfl hr_w1 d_Wa_begin_1 ?_
  refine V.sipush (v := 1000) d_Wa_begin_4 (by decide) ?_
  obtain ⟨σ7, h1, h⟩ := bnd1_e h
  refine V.sN (as := [rf Z w1, .int 1000]) (st := []) (c_JA_fill_53178 Z hk_w1 hy_w1 h1) k_JA_fill_53178 lk_Wa_33 (by decide) rfl rfl (Nat.le_of_ble_eq_true rfl) d_Wa_begin_7 ?_
  refine V.aload_n d_Wa_begin_10 rfl 0 rfl ?_
  obtain ⟨w11, hw, h⟩ := bnd1_e h
  obtain ⟨hr_w11, hk_w11, hy_w11⟩ := drf_e hw
  refine V.getM ok_Wa fl_Wa_9 (by decide) (by decide) ly_44 rfl hr_w11 d_Wa_begin_11 ?_
  refine V.iload_n d_Wa_begin_14 rfl 1 rfl ?_
  refine V.iconst (v := 0) d_Wa_begin_15 (by decide) ?_
  obtain ⟨gq, h⟩ := grd_e h
  obtain ⟨σ16, e_σ16, h⟩ := letv_e h
  refine V.wa hk_w11 hy_w11 (inb_e gq) rfl d_Wa_begin_16 e_σ16 ?_
  cases h
  exact V.vret rfl d_Wa_begin_17 ⟨rfl, rfl⟩
abbrev m_Wa_leastAround : MI := (⟨"ShadeTown$Walks", "leastAround", "(I)I"⟩, prog_10_method_8_code, 4, (Option.some Jvm.ClassFile.FieldType.int))
theorem d_Wa_leastAround_0 : decode prog_10_method_8_code 0 = .ok (.iload_n 1, 1) := by decide +kernel
theorem d_Wa_leastAround_1 : decode prog_10_method_8_code 1 = .ok (.bipush 12, 2) := by decide +kernel
theorem d_Wa_leastAround_3 : decode prog_10_method_8_code 3 = .ok (.irem, 1) := by decide +kernel
theorem d_Wa_leastAround_4 : decode prog_10_method_8_code 4 = .ok (.istore_n 2, 1) := by decide +kernel
theorem d_Wa_leastAround_5 : decode prog_10_method_8_code 5 = .ok (.aload_n 0, 1) := by decide +kernel
theorem d_Wa_leastAround_6 : decode prog_10_method_8_code 6 = .ok (.getfield 9, 3) := by decide +kernel
theorem d_Wa_leastAround_9 : decode prog_10_method_8_code 9 = .ok (.iload_n 1, 1) := by decide +kernel
theorem d_Wa_leastAround_10 : decode prog_10_method_8_code 10 = .ok (.iaload, 1) := by decide +kernel
theorem d_Wa_leastAround_11 : decode prog_10_method_8_code 11 = .ok (.istore_n 3, 1) := by decide +kernel
theorem d_Wa_leastAround_12 : decode prog_10_method_8_code 12 = .ok (.iload_n 2, 1) := by decide +kernel
theorem d_Wa_leastAround_31 : decode prog_10_method_8_code 31 = .ok (.iload_n 3, 1) := by decide +kernel
theorem d_Wa_leastAround_16 : decode prog_10_method_8_code 16 = .ok (.iload_n 3, 1) := by decide +kernel
theorem d_Wa_leastAround_17 : decode prog_10_method_8_code 17 = .ok (.aload_n 0, 1) := by decide +kernel
theorem d_Wa_leastAround_18 : decode prog_10_method_8_code 18 = .ok (.getfield 9, 3) := by decide +kernel
theorem d_Wa_leastAround_21 : decode prog_10_method_8_code 21 = .ok (.iload_n 1, 1) := by decide +kernel
theorem d_Wa_leastAround_22 : decode prog_10_method_8_code 22 = .ok (.iconst 1, 1) := by decide +kernel
theorem d_Wa_leastAround_23 : decode prog_10_method_8_code 23 = .ok (.isub, 1) := by decide +kernel
theorem d_Wa_leastAround_24 : decode prog_10_method_8_code 24 = .ok (.iaload, 1) := by decide +kernel
theorem d_Wa_leastAround_25 : decode prog_10_method_8_code 25 = .ok (.invokestatic 26, 3) := by decide +kernel
theorem lk_Wa_26 : Cond.methodLink "ShadeTown$Walks" 26 ⟨"java/lang/Math", "min", "(II)I"⟩ ∈ tblG := atG 989 (by decide +kernel) rfl
theorem d_Wa_leastAround_28 : decode prog_10_method_8_code 28 = .ok (.goto 4, 3) := by decide +kernel
theorem d_Wa_leastAround_13 : decode prog_10_method_8_code 13 = .ok (.ifCond .le 18, 3) := by decide +kernel
theorem d_Wa_leastAround_32 : decode prog_10_method_8_code 32 = .ok (.istore_n 3, 1) := by decide +kernel
theorem d_Wa_leastAround_33 : decode prog_10_method_8_code 33 = .ok (.iload_n 2, 1) := by decide +kernel
theorem d_Wa_leastAround_34 : decode prog_10_method_8_code 34 = .ok (.bipush 11, 2) := by decide +kernel
theorem d_Wa_leastAround_54 : decode prog_10_method_8_code 54 = .ok (.iload_n 3, 1) := by decide +kernel
theorem d_Wa_leastAround_39 : decode prog_10_method_8_code 39 = .ok (.iload_n 3, 1) := by decide +kernel
theorem d_Wa_leastAround_40 : decode prog_10_method_8_code 40 = .ok (.aload_n 0, 1) := by decide +kernel
theorem d_Wa_leastAround_41 : decode prog_10_method_8_code 41 = .ok (.getfield 9, 3) := by decide +kernel
theorem d_Wa_leastAround_44 : decode prog_10_method_8_code 44 = .ok (.iload_n 1, 1) := by decide +kernel
theorem d_Wa_leastAround_45 : decode prog_10_method_8_code 45 = .ok (.iconst 1, 1) := by decide +kernel
theorem d_Wa_leastAround_46 : decode prog_10_method_8_code 46 = .ok (.iadd, 1) := by decide +kernel
theorem d_Wa_leastAround_47 : decode prog_10_method_8_code 47 = .ok (.iaload, 1) := by decide +kernel
theorem d_Wa_leastAround_48 : decode prog_10_method_8_code 48 = .ok (.invokestatic 26, 3) := by decide +kernel
theorem d_Wa_leastAround_51 : decode prog_10_method_8_code 51 = .ok (.goto 4, 3) := by decide +kernel
theorem d_Wa_leastAround_36 : decode prog_10_method_8_code 36 = .ok (.if_icmp .ge 18, 3) := by decide +kernel
theorem d_Wa_leastAround_55 : decode prog_10_method_8_code 55 = .ok (.istore_n 3, 1) := by decide +kernel
theorem d_Wa_leastAround_56 : decode prog_10_method_8_code 56 = .ok (.iload_n 1, 1) := by decide +kernel
theorem d_Wa_leastAround_57 : decode prog_10_method_8_code 57 = .ok (.bipush 12, 2) := by decide +kernel
theorem d_Wa_leastAround_78 : decode prog_10_method_8_code 78 = .ok (.iload_n 3, 1) := by decide +kernel
theorem d_Wa_leastAround_62 : decode prog_10_method_8_code 62 = .ok (.iload_n 3, 1) := by decide +kernel
theorem d_Wa_leastAround_63 : decode prog_10_method_8_code 63 = .ok (.aload_n 0, 1) := by decide +kernel
theorem d_Wa_leastAround_64 : decode prog_10_method_8_code 64 = .ok (.getfield 9, 3) := by decide +kernel
theorem d_Wa_leastAround_67 : decode prog_10_method_8_code 67 = .ok (.iload_n 1, 1) := by decide +kernel
theorem d_Wa_leastAround_68 : decode prog_10_method_8_code 68 = .ok (.bipush 12, 2) := by decide +kernel
theorem d_Wa_leastAround_70 : decode prog_10_method_8_code 70 = .ok (.isub, 1) := by decide +kernel
theorem d_Wa_leastAround_71 : decode prog_10_method_8_code 71 = .ok (.iaload, 1) := by decide +kernel
theorem d_Wa_leastAround_72 : decode prog_10_method_8_code 72 = .ok (.invokestatic 26, 3) := by decide +kernel
theorem d_Wa_leastAround_75 : decode prog_10_method_8_code 75 = .ok (.goto 4, 3) := by decide +kernel
theorem d_Wa_leastAround_59 : decode prog_10_method_8_code 59 = .ok (.if_icmp .lt 19, 3) := by decide +kernel
theorem d_Wa_leastAround_79 : decode prog_10_method_8_code 79 = .ok (.istore_n 3, 1) := by decide +kernel
theorem d_Wa_leastAround_80 : decode prog_10_method_8_code 80 = .ok (.iload_n 1, 1) := by decide +kernel
theorem d_Wa_leastAround_81 : decode prog_10_method_8_code 81 = .ok (.sipush 132, 3) := by decide +kernel
theorem d_Wa_leastAround_103 : decode prog_10_method_8_code 103 = .ok (.iload_n 3, 1) := by decide +kernel
theorem d_Wa_leastAround_104 : decode prog_10_method_8_code 104 = .ok (.ireturn, 1) := by decide +kernel
theorem d_Wa_leastAround_87 : decode prog_10_method_8_code 87 = .ok (.iload_n 3, 1) := by decide +kernel
theorem d_Wa_leastAround_88 : decode prog_10_method_8_code 88 = .ok (.aload_n 0, 1) := by decide +kernel
theorem d_Wa_leastAround_89 : decode prog_10_method_8_code 89 = .ok (.getfield 9, 3) := by decide +kernel
theorem d_Wa_leastAround_92 : decode prog_10_method_8_code 92 = .ok (.iload_n 1, 1) := by decide +kernel
theorem d_Wa_leastAround_93 : decode prog_10_method_8_code 93 = .ok (.bipush 12, 2) := by decide +kernel
theorem d_Wa_leastAround_95 : decode prog_10_method_8_code 95 = .ok (.iadd, 1) := by decide +kernel
theorem d_Wa_leastAround_96 : decode prog_10_method_8_code 96 = .ok (.iaload, 1) := by decide +kernel
theorem d_Wa_leastAround_97 : decode prog_10_method_8_code 97 = .ok (.invokestatic 26, 3) := by decide +kernel
theorem d_Wa_leastAround_100 : decode prog_10_method_8_code 100 = .ok (.goto 4, 3) := by decide +kernel
theorem d_Wa_leastAround_84 : decode prog_10_method_8_code 84 = .ok (.if_icmp .ge 19, 3) := by decide +kernel
def f_Wa_leastAround (σ : Mem) (a1 : Int32) : Option (Int32) :=
  letv (a1 - a1 / 12 * 12) fun v4 =>
  bnd1 (drf σ 44 0) fun w6 =>
  grd (inb a1 144) <|
  letv (mI σ w6 (a1.toNatClampNeg)) fun v11 =>
  bnd1 ((
    if v4 ≤ 0 then
      (some v11)
    else
      (bnd1 (drf σ 44 0) fun w18 =>
      grd (inb (a1 - 1) 144) <|
      bnd1 (f_JM_min_7cf53 v11 (mI σ w18 ((a1 - 1).toNatClampNeg))) fun r25 =>
      some r25)) : Option (Int32)) fun y13_s0 =>
  bnd1 ((
    if 11 ≤ v4 then
      (some y13_s0)
    else
      (bnd1 (drf σ 44 0) fun w41 =>
      grd (inb (a1 + 1) 144) <|
      bnd1 (f_JM_min_7cf53 y13_s0 (mI σ w41 ((a1 + 1).toNatClampNeg))) fun r48 =>
      some r48)) : Option (Int32)) fun y36_s0 =>
  bnd1 ((
    if a1 < 12 then
      (some y36_s0)
    else
      (bnd1 (drf σ 44 0) fun w64 =>
      grd (inb (a1 - 12) 144) <|
      bnd1 (f_JM_min_7cf53 y36_s0 (mI σ w64 ((a1 - 12).toNatClampNeg))) fun r72 =>
      some r72)) : Option (Int32)) fun y59_s0 =>
  if 132 ≤ a1 then
    (some y59_s0)
  else
    (bnd1 (drf σ 44 0) fun w89 =>
    grd (inb (a1 + 12) 144) <|
    bnd1 (f_JM_min_7cf53 y59_s0 (mI σ w89 ((a1 + 12).toNatClampNeg))) fun r97 =>
    some r97)
set_option maxHeartbeats 4000000 in
set_option maxRecDepth 20000 in
theorem c_Wa_leastAround (Z : ZX) {σ : Mem} {a1 : Int32} {r : Int32} (h : f_Wa_leastAround σ a1 = some r) : CI Z 1 m_Wa_leastAround [rf Z 44, .int a1] σ r σ := by
  refine Ct.of (by decide +kernel) (Nat.le_of_ble_eq_true rfl) (fun Y => ?_)
  show V (mkB Z) Y m_Wa_leastAround 1 (QP (mkB Z) Y nC 0 0 (fun v t => v = some (.int r) ∧ t = σ)) 0 0 nC σ 0 [(0, rf Z 44), (1, .int a1)] []
  unfold f_Wa_leastAround at h
  refine V.iload_n d_Wa_leastAround_0 rfl 1 rfl ?_
  refine V.bipush (v := 12) d_Wa_leastAround_1 (by decide) ?_
  refine V.irem d_Wa_leastAround_3 (by decide) ?_
  obtain ⟨v4, e_v4, h⟩ := letv_e h
  refine V.topI e_v4 ?_
  refine V.istore_n (lv' := [(2, .int v4), (0, rf Z 44), (1, .int a1)]) d_Wa_leastAround_4 rfl (by decide) rfl ?_
  refine V.aload_n d_Wa_leastAround_5 rfl 1 rfl ?_
  obtain ⟨w6, hw, h⟩ := bnd1_e h
  obtain ⟨hr_w6, hk_w6, hy_w6⟩ := drf_e hw
  refine V.getM ok_Wa fl_Wa_9 (by decide) (by decide) ly_44 rfl hr_w6 d_Wa_leastAround_6 ?_
  refine V.iload_n d_Wa_leastAround_9 rfl 2 rfl ?_
  obtain ⟨gq, h⟩ := grd_e h
  refine V.ra hk_w6 hy_w6 (inb_e gq) rfl d_Wa_leastAround_10 ?_
  obtain ⟨v11, e_v11, h⟩ := letv_e h
  refine V.topI e_v11 ?_
  refine V.istore_n (lv' := [(3, .int v11), (2, .int v4), (0, rf Z 44), (1, .int a1)]) d_Wa_leastAround_11 rfl (by decide) rfl ?_
  refine V.iload_n d_Wa_leastAround_12 rfl 1 rfl ?_
  obtain ⟨s13, h1, h⟩ := bnd1_e h
  have J13_32 : ∀ (y13_s0 : Int32), s13 = y13_s0 → V (mkB Z) Y m_Wa_leastAround 1 (QP (mkB Z) Y nC 0 0 (fun v t => v = some (.int r) ∧ t = σ)) 0 0 nC σ 32 [(0, rf Z 44), (1, .int a1), (2, .int v4)] [.int y13_s0] := by
    intro y13_s0 he
    rw [he] at h
    refine V.istore_n (lv' := [(3, .int y13_s0), (0, rf Z 44), (1, .int a1), (2, .int v4)]) d_Wa_leastAround_32 rfl (by decide) rfl ?_
    refine V.iload_n d_Wa_leastAround_33 rfl 3 rfl ?_
    refine V.bipush (v := 11) d_Wa_leastAround_34 (by decide) ?_
    obtain ⟨s36, h1, h⟩ := bnd1_e h
    have J36_55 : ∀ (y36_s0 : Int32), s36 = y36_s0 → V (mkB Z) Y m_Wa_leastAround 1 (QP (mkB Z) Y nC 0 0 (fun v t => v = some (.int r) ∧ t = σ)) 0 0 nC σ 55 [(0, rf Z 44), (1, .int a1)] [.int y36_s0] := by
      intro y36_s0 he
      rw [he] at h
      refine V.istore_n (lv' := [(3, .int y36_s0), (0, rf Z 44), (1, .int a1)]) d_Wa_leastAround_55 rfl (by decide) rfl ?_
      refine V.iload_n d_Wa_leastAround_56 rfl 2 rfl ?_
      refine V.bipush (v := 12) d_Wa_leastAround_57 (by decide) ?_
      obtain ⟨s59, h1, h⟩ := bnd1_e h
      have J59_79 : ∀ (y59_s0 : Int32), s59 = y59_s0 → V (mkB Z) Y m_Wa_leastAround 1 (QP (mkB Z) Y nC 0 0 (fun v t => v = some (.int r) ∧ t = σ)) 0 0 nC σ 79 [(0, rf Z 44), (1, .int a1)] [.int y59_s0] := by
        intro y59_s0 he
        rw [he] at h
        refine V.istore_n (lv' := [(3, .int y59_s0), (0, rf Z 44), (1, .int a1)]) d_Wa_leastAround_79 rfl (by decide) rfl ?_
        refine V.iload_n d_Wa_leastAround_80 rfl 2 rfl ?_
        refine V.sipush (v := 132) d_Wa_leastAround_81 (by decide) ?_
        refine V.icmp_ge (tgt := 103) d_Wa_leastAround_84 (by decide) (fun hc84 => ?_) (fun hc84 => ?_)
        · replace h := ite_t hc84 h
          refine V.iload_n d_Wa_leastAround_103 rfl 0 rfl ?_
          cases h
          exact V.iret rfl d_Wa_leastAround_104 ⟨rfl, rfl⟩
        · replace h := ite_f hc84 h
          refine V.iload_n d_Wa_leastAround_87 rfl 0 rfl ?_
          refine V.aload_n d_Wa_leastAround_88 rfl 1 rfl ?_
          obtain ⟨w89, hw, h⟩ := bnd1_e h
          obtain ⟨hr_w89, hk_w89, hy_w89⟩ := drf_e hw
          refine V.getM ok_Wa fl_Wa_9 (by decide) (by decide) ly_44 rfl hr_w89 d_Wa_leastAround_89 ?_
          refine V.iload_n d_Wa_leastAround_92 rfl 2 rfl ?_
          refine V.bipush (v := 12) d_Wa_leastAround_93 (by decide) ?_
          refine V.iadd d_Wa_leastAround_95 ?_
          obtain ⟨gq, h⟩ := grd_e h
          refine V.ra hk_w89 hy_w89 (inb_e gq) rfl d_Wa_leastAround_96 ?_
          obtain ⟨r97, h1, h⟩ := bnd1_e h
          refine V.sI (as := [.int y59_s0, .int (mI σ w89 ((a1 + 12).toNatClampNeg))]) (st := []) (c_JM_min_7cf53 Z h1) k_JM_min_7cf53 lk_Wa_26 (by decide) rfl rfl (Nat.le_of_ble_eq_true rfl) d_Wa_leastAround_97 ?_
          refine V.goto (tgt := 104) d_Wa_leastAround_100 (by decide) ?_
          cases h
          exact V.iret rfl d_Wa_leastAround_104 ⟨rfl, rfl⟩
      replace h := h1
      refine V.icmp_lt (tgt := 78) d_Wa_leastAround_59 (by decide) (fun hc59 => ?_) (fun hc59 => ?_)
      · replace h := ite_t hc59 h
        refine V.iload_n d_Wa_leastAround_78 rfl 0 rfl ?_
        exact V.pick [1, 2] rfl (J59_79 _ (Option.some.inj h).symm)
      · replace h := ite_f hc59 h
        refine V.iload_n d_Wa_leastAround_62 rfl 0 rfl ?_
        refine V.aload_n d_Wa_leastAround_63 rfl 1 rfl ?_
        obtain ⟨w64, hw, h⟩ := bnd1_e h
        obtain ⟨hr_w64, hk_w64, hy_w64⟩ := drf_e hw
        refine V.getM ok_Wa fl_Wa_9 (by decide) (by decide) ly_44 rfl hr_w64 d_Wa_leastAround_64 ?_
        refine V.iload_n d_Wa_leastAround_67 rfl 2 rfl ?_
        refine V.bipush (v := 12) d_Wa_leastAround_68 (by decide) ?_
        refine V.isub d_Wa_leastAround_70 ?_
        obtain ⟨gq, h⟩ := grd_e h
        refine V.ra hk_w64 hy_w64 (inb_e gq) rfl d_Wa_leastAround_71 ?_
        obtain ⟨r72, h1, h⟩ := bnd1_e h
        refine V.sI (as := [.int y36_s0, .int (mI σ w64 ((a1 - 12).toNatClampNeg))]) (st := []) (c_JM_min_7cf53 Z h1) k_JM_min_7cf53 lk_Wa_26 (by decide) rfl rfl (Nat.le_of_ble_eq_true rfl) d_Wa_leastAround_72 ?_
        refine V.goto (tgt := 79) d_Wa_leastAround_75 (by decide) ?_
        exact V.pick [1, 2] rfl (J59_79 _ (Option.some.inj h).symm)
    replace h := h1
    refine V.icmp_ge (tgt := 54) d_Wa_leastAround_36 (by decide) (fun hc36 => ?_) (fun hc36 => ?_)
    · replace h := ite_t hc36 h
      refine V.iload_n d_Wa_leastAround_54 rfl 0 rfl ?_
      exact V.pick [1, 2] rfl (J36_55 _ (Option.some.inj h).symm)
    · replace h := ite_f hc36 h
      refine V.iload_n d_Wa_leastAround_39 rfl 0 rfl ?_
      refine V.aload_n d_Wa_leastAround_40 rfl 1 rfl ?_
      obtain ⟨w41, hw, h⟩ := bnd1_e h
      obtain ⟨hr_w41, hk_w41, hy_w41⟩ := drf_e hw
      refine V.getM ok_Wa fl_Wa_9 (by decide) (by decide) ly_44 rfl hr_w41 d_Wa_leastAround_41 ?_
      refine V.iload_n d_Wa_leastAround_44 rfl 2 rfl ?_
      refine V.iconst (v := 1) d_Wa_leastAround_45 (by decide) ?_
      refine V.iadd d_Wa_leastAround_46 ?_
      obtain ⟨gq, h⟩ := grd_e h
      refine V.ra hk_w41 hy_w41 (inb_e gq) rfl d_Wa_leastAround_47 ?_
      obtain ⟨r48, h1, h⟩ := bnd1_e h
      refine V.sI (as := [.int y13_s0, .int (mI σ w41 ((a1 + 1).toNatClampNeg))]) (st := []) (c_JM_min_7cf53 Z h1) k_JM_min_7cf53 lk_Wa_26 (by decide) rfl rfl (Nat.le_of_ble_eq_true rfl) d_Wa_leastAround_48 ?_
      refine V.goto (tgt := 55) d_Wa_leastAround_51 (by decide) ?_
      exact V.pick [1, 2] rfl (J36_55 _ (Option.some.inj h).symm)
  replace h := h1
  refine V.if_le (tgt := 31) d_Wa_leastAround_13 (by decide) (fun hc13 => ?_) (fun hc13 => ?_)
  · replace h := ite_t hc13 h
    refine V.iload_n d_Wa_leastAround_31 rfl 0 rfl ?_
    exact V.pick [2, 3, 1] rfl (J13_32 _ (Option.some.inj h).symm)
  · replace h := ite_f hc13 h
    refine V.iload_n d_Wa_leastAround_16 rfl 0 rfl ?_
    refine V.aload_n d_Wa_leastAround_17 rfl 2 rfl ?_
    obtain ⟨w18, hw, h⟩ := bnd1_e h
    obtain ⟨hr_w18, hk_w18, hy_w18⟩ := drf_e hw
    refine V.getM ok_Wa fl_Wa_9 (by decide) (by decide) ly_44 rfl hr_w18 d_Wa_leastAround_18 ?_
    refine V.iload_n d_Wa_leastAround_21 rfl 3 rfl ?_
    refine V.iconst (v := 1) d_Wa_leastAround_22 (by decide) ?_
    refine V.isub d_Wa_leastAround_23 ?_
    obtain ⟨gq, h⟩ := grd_e h
    refine V.ra hk_w18 hy_w18 (inb_e gq) rfl d_Wa_leastAround_24 ?_
    obtain ⟨r25, h1, h⟩ := bnd1_e h
    refine V.sI (as := [.int v11, .int (mI σ w18 ((a1 - 1).toNatClampNeg))]) (st := []) (c_JM_min_7cf53 Z h1) k_JM_min_7cf53 lk_Wa_26 (by decide) rfl rfl (Nat.le_of_ble_eq_true rfl) d_Wa_leastAround_25 ?_
    refine V.goto (tgt := 32) d_Wa_leastAround_28 (by decide) ?_
    exact V.pick [2, 3, 1] rfl (J13_32 _ (Option.some.inj h).symm)
abbrev m_Wa_step : MI := (⟨"ShadeTown$Walks", "step", "(LShadeTown$Day;I)V"⟩, prog_10_method_7_code, 6, (Option.none : Option Jvm.ClassFile.FieldType))
theorem d_Wa_step_0 : decode prog_10_method_7_code 0 = .ok (.aload_n 1, 1) := by decide +kernel
theorem d_Wa_step_1 : decode prog_10_method_7_code 1 = .ok (.iload_n 2, 1) := by decide +kernel
theorem d_Wa_step_2 : decode prog_10_method_7_code 2 = .ok (.invokevirtual 39, 3) := by decide +kernel
theorem lk_Wa_39 : Cond.methodLink "ShadeTown$Walks" 39 ⟨"ShadeTown$Day", "isUp", "(I)Z"⟩ ∈ tblG := atG 983 (by decide +kernel) rfl
theorem d_Wa_step_5 : decode prog_10_method_7_code 5 = .ok (.istore_n 3, 1) := by decide +kernel
theorem d_Wa_step_6 : decode prog_10_method_7_code 6 = .ok (.iconst 0, 1) := by decide +kernel
theorem d_Wa_step_7 : decode prog_10_method_7_code 7 = .ok (.istore 4, 2) := by decide +kernel
theorem d_Wa_step_9 : decode prog_10_method_7_code 9 = .ok (.iload 4, 2) := by decide +kernel
theorem d_Wa_step_11 : decode prog_10_method_7_code 11 = .ok (.sipush 144, 3) := by decide +kernel
theorem d_Wa_step_79 : decode prog_10_method_7_code 79 = .ok (.aload_n 0, 1) := by decide +kernel
theorem d_Wa_step_80 : decode prog_10_method_7_code 80 = .ok (.getfield 9, 3) := by decide +kernel
theorem d_Wa_step_83 : decode prog_10_method_7_code 83 = .ok (.astore 4, 2) := by decide +kernel
theorem d_Wa_step_85 : decode prog_10_method_7_code 85 = .ok (.aload_n 0, 1) := by decide +kernel
theorem d_Wa_step_86 : decode prog_10_method_7_code 86 = .ok (.aload_n 0, 1) := by decide +kernel
theorem fl_Wa_15 : FL "ShadeTown$Walks" 15 T_Wa 1 := atG 334 (by decide +kernel) rfl
theorem d_Wa_step_87 : decode prog_10_method_7_code 87 = .ok (.getfield 15, 3) := by decide +kernel
theorem d_Wa_step_90 : decode prog_10_method_7_code 90 = .ok (.putfield 9, 3) := by decide +kernel
theorem d_Wa_step_93 : decode prog_10_method_7_code 93 = .ok (.aload_n 0, 1) := by decide +kernel
theorem d_Wa_step_94 : decode prog_10_method_7_code 94 = .ok (.aload 4, 2) := by decide +kernel
theorem d_Wa_step_96 : decode prog_10_method_7_code 96 = .ok (.putfield 15, 3) := by decide +kernel
theorem d_Wa_step_99 : decode prog_10_method_7_code 99 = .ok (.return_, 1) := by decide +kernel
theorem d_Wa_step_17 : decode prog_10_method_7_code 17 = .ok (.sipush 1000, 3) := by decide +kernel
theorem d_Wa_step_20 : decode prog_10_method_7_code 20 = .ok (.istore 5, 2) := by decide +kernel
theorem d_Wa_step_22 : decode prog_10_method_7_code 22 = .ok (.aload_n 1, 1) := by decide +kernel
theorem d_Wa_step_23 : decode prog_10_method_7_code 23 = .ok (.iload 4, 2) := by decide +kernel
theorem d_Wa_step_25 : decode prog_10_method_7_code 25 = .ok (.invokevirtual 45, 3) := by decide +kernel
theorem lk_Wa_45 : Cond.methodLink "ShadeTown$Walks" 45 ⟨"ShadeTown$Day", "isFree", "(I)Z"⟩ ∈ tblG := atG 984 (by decide +kernel) rfl
theorem d_Wa_step_31 : decode prog_10_method_7_code 31 = .ok (.aload_n 0, 1) := by decide +kernel
theorem d_Wa_step_32 : decode prog_10_method_7_code 32 = .ok (.iload 4, 2) := by decide +kernel
theorem d_Wa_step_34 : decode prog_10_method_7_code 34 = .ok (.invokevirtual 48, 3) := by decide +kernel
theorem k_Wa_leastAround : MOk m_Wa_leastAround 1 ∧ IOk m_Wa_leastAround := ⟨⟨atG 988 (by decide +kernel) rfl, atG 118 (by decide +kernel) rfl, ⟨by decide, by decide⟩, by decide +kernel, by decide⟩, atG 987 (by decide +kernel) rfl, atG 26 (by decide +kernel) rfl⟩
theorem lk_Wa_48 : Cond.methodLink "ShadeTown$Walks" 48 ⟨"ShadeTown$Walks", "leastAround", "(I)I"⟩ ∈ tblG := atG 985 (by decide +kernel) rfl
theorem d_Wa_step_37 : decode prog_10_method_7_code 37 = .ok (.istore 5, 2) := by decide +kernel
theorem d_Wa_step_39 : decode prog_10_method_7_code 39 = .ok (.iload 5, 2) := by decide +kernel
theorem d_Wa_step_41 : decode prog_10_method_7_code 41 = .ok (.sipush 1000, 3) := by decide +kernel
theorem d_Wa_step_47 : decode prog_10_method_7_code 47 = .ok (.iload_n 3, 1) := by decide +kernel
theorem d_Wa_step_51 : decode prog_10_method_7_code 51 = .ok (.aload_n 1, 1) := by decide +kernel
theorem d_Wa_step_52 : decode prog_10_method_7_code 52 = .ok (.iload_n 2, 1) := by decide +kernel
theorem d_Wa_step_53 : decode prog_10_method_7_code 53 = .ok (.iload 4, 2) := by decide +kernel
theorem d_Wa_step_55 : decode prog_10_method_7_code 55 = .ok (.invokevirtual 52, 3) := by decide +kernel
theorem lk_Wa_52 : Cond.methodLink "ShadeTown$Walks" 52 ⟨"ShadeTown$Day", "whoCasts", "(II)I"⟩ ∈ tblG := atG 990 (by decide +kernel) rfl
theorem d_Wa_step_61 : decode prog_10_method_7_code 61 = .ok (.iinc 5 1, 3) := by decide +kernel
theorem d_Wa_step_58 : decode prog_10_method_7_code 58 = .ok (.ifCond .ne 6, 3) := by decide +kernel
theorem d_Wa_step_48 : decode prog_10_method_7_code 48 = .ok (.ifCond .eq 16, 3) := by decide +kernel
theorem d_Wa_step_44 : decode prog_10_method_7_code 44 = .ok (.if_icmp .ge 20, 3) := by decide +kernel
theorem d_Wa_step_28 : decode prog_10_method_7_code 28 = .ok (.ifCond .eq 36, 3) := by decide +kernel
theorem d_Wa_step_64 : decode prog_10_method_7_code 64 = .ok (.aload_n 0, 1) := by decide +kernel
theorem d_Wa_step_65 : decode prog_10_method_7_code 65 = .ok (.getfield 15, 3) := by decide +kernel
theorem d_Wa_step_68 : decode prog_10_method_7_code 68 = .ok (.iload 4, 2) := by decide +kernel
theorem d_Wa_step_70 : decode prog_10_method_7_code 70 = .ok (.iload 5, 2) := by decide +kernel
theorem d_Wa_step_72 : decode prog_10_method_7_code 72 = .ok (.iastore, 1) := by decide +kernel
theorem d_Wa_step_73 : decode prog_10_method_7_code 73 = .ok (.iinc 4 1, 3) := by decide +kernel
theorem d_Wa_step_76 : decode prog_10_method_7_code 76 = .ok (.goto (-67), 3) := by decide +kernel
theorem d_Wa_step_14 : decode prog_10_method_7_code 14 = .ok (.if_icmp .ge 65, 3) := by decide +kernel
def B_Wa_step_l9 (N : Nat) (a2 : Int32) (a3 : Int32) (rec : Int32 → Mem → Option (Mem)) (x4 : Int32) (σ : Mem) : Option (Mem) :=
  if 144 ≤ x4 then
    (bnd1 (drf σ 44 0) fun w80 =>
    bnd1 (drf σ 44 1) fun w87 =>
    letv (sR σ 44 0 (w87 + 1)) fun σ90 =>
    letv (sR σ90 44 1 (w80 + 1)) fun σ96 =>
    some σ96)
  else
    (bnd1 (f_Da_isFree σ x4) fun r25 =>
    bnd1 ((
      if r25 = 0 then
        (some 1000)
      else
        (bnd1 (f_Wa_leastAround σ x4) fun r34 =>
        if 1000 ≤ r34 then
          (some r34)
        else
          (if a3 = 0 then
            (some r34)
          else
            (bnd1 (f_Da_whoCasts σ a2 x4) fun r55 =>
            if r55 = 0 then
              (letv (r34 + 1) fun v61 =>
              some v61)
            else
              (some r34))))) : Option (Int32)) fun y28_5 =>
    bnd1 (drf σ 44 1) fun w65 =>
    grd (inb x4 144) <|
    letv (sI σ w65 (x4.toNatClampNeg) y28_5) fun σ72 =>
    letv (x4 + 1) fun v73 =>
    rec v73 σ72)
def L_Wa_step_l9 (N : Nat) (a2 : Int32) (a3 : Int32) : Nat → Int32 → Mem → Option (Mem)
  | 0, _, _ => none
  | k + 1, x4, σ => B_Wa_step_l9 N a2 a3 (L_Wa_step_l9 N a2 a3 k) x4 σ
set_option maxHeartbeats 4000000 in
set_option maxRecDepth 20000 in
theorem cL_Wa_step_l9 (Z : ZX) {Y : YX} {post : Option Value → Mem → Prop} {N : Nat} {a2 : Int32} {a3 : Int32} {Good : Mem → Prop} (hR : ∀ (σr : Mem), Good σr → post none σr) : ∀ (k : Nat) (x4 : Int32) (σ : Mem) (res : Mem), L_Wa_step_l9 N a2 a3 k x4 σ = some res → Good res → V (mkB Z) Y m_Wa_step 2 (QP (mkB Z) Y nC 0 0 post) 0 0 nC σ 9 [(0, rf Z 44), (1, rf Z 33), (2, .int a2), (3, .int a3), (4, .int x4)] [] := by
  intro k
  induction k with
  | zero => intro x4 σ res h; cases h
  | succ k ih =>
    intro x4 σ res h hg
    replace h : B_Wa_step_l9 N a2 a3 (L_Wa_step_l9 N a2 a3 k) x4 σ = some res := h
    unfold B_Wa_step_l9 at h
    refine V.iload d_Wa_step_9 4 rfl ?_
    refine V.sipush (v := 144) d_Wa_step_11 (by decide) ?_
    refine V.icmp_ge (tgt := 79) d_Wa_step_14 (by decide) (fun hc14 => ?_) (fun hc14 => ?_)
    · replace h := ite_t hc14 h
      refine V.aload_n d_Wa_step_79 rfl 0 rfl ?_
      obtain ⟨w80, hw, h⟩ := bnd1_e h
      obtain ⟨hr_w80, hk_w80, hy_w80⟩ := drf_e hw
      refine V.getM ok_Wa fl_Wa_9 (by decide) (by decide) ly_44 rfl hr_w80 d_Wa_step_80 ?_
      refine V.astore (lv' := [(4, rf Z w80), (0, rf Z 44), (1, rf Z 33), (2, .int a2), (3, .int a3)]) d_Wa_step_83 (by decide) rfl ?_
      refine V.aload_n d_Wa_step_85 rfl 1 rfl ?_
      refine V.aload_n d_Wa_step_86 rfl 1 rfl ?_
      obtain ⟨w87, hw, h⟩ := bnd1_e h
      obtain ⟨hr_w87, hk_w87, hy_w87⟩ := drf_e hw
      refine V.getM ok_Wa fl_Wa_15 (by decide) (by decide) ly_44 rfl hr_w87 d_Wa_step_87 ?_
      obtain ⟨σ90, e_σ90, h⟩ := letv_e h
      refine V.putM ok_Wa fl_Wa_9 (by decide) (by decide) ly_44 rfl rfl (fun _ => rfl) (fun _ => rfl) d_Wa_step_90 (V.mem e_σ90 ?_)
      refine V.aload_n d_Wa_step_93 rfl 1 rfl ?_
      refine V.aload d_Wa_step_94 0 rfl ?_
      obtain ⟨σ96, e_σ96, h⟩ := letv_e h
      refine V.putM ok_Wa fl_Wa_15 (by decide) (by decide) ly_44 rfl rfl (fun _ => rfl) (fun _ => rfl) d_Wa_step_96 (V.mem e_σ96 ?_)
      cases h
      exact V.vret rfl d_Wa_step_99 (hR _ hg)
    · replace h := ite_f hc14 h
      refine V.sipush (v := 1000) d_Wa_step_17 (by decide) ?_
      refine V.istore (lv' := [(5, .int 1000), (0, rf Z 44), (1, rf Z 33), (2, .int a2), (3, .int a3), (4, .int x4)]) d_Wa_step_20 (by decide) rfl ?_
      refine V.aload_n d_Wa_step_22 rfl 2 rfl ?_
      refine V.iload d_Wa_step_23 5 rfl ?_
      obtain ⟨r25, h1, h⟩ := bnd1_e h
      refine V.vI (as := [.int x4]) (st := []) (c_Da_isFree Z h1) k_Da_isFree lk_Wa_45 (by decide) rfl (by decide) ly_33 ok_Da.1 rfl (Nat.le_of_ble_eq_true rfl) d_Wa_step_25 ?_
      obtain ⟨s28, h1, h⟩ := bnd1_e h
      have J28_64 : ∀ (y28_5 : Int32), s28 = y28_5 → V (mkB Z) Y m_Wa_step 2 (QP (mkB Z) Y nC 0 0 post) 0 0 nC σ 64 [(0, rf Z 44), (1, rf Z 33), (2, .int a2), (3, .int a3), (4, .int x4), (5, .int y28_5)] [] := by
        intro y28_5 he
        rw [he] at h
        refine V.aload_n d_Wa_step_64 rfl 0 rfl ?_
        obtain ⟨w65, hw, h⟩ := bnd1_e h
        obtain ⟨hr_w65, hk_w65, hy_w65⟩ := drf_e hw
        refine V.getM ok_Wa fl_Wa_15 (by decide) (by decide) ly_44 rfl hr_w65 d_Wa_step_65 ?_
        refine V.iload d_Wa_step_68 4 rfl ?_
        refine V.iload d_Wa_step_70 5 rfl ?_
        obtain ⟨gq, h⟩ := grd_e h
        obtain ⟨σ72, e_σ72, h⟩ := letv_e h
        refine V.wa hk_w65 hy_w65 (inb_e gq) rfl d_Wa_step_72 e_σ72 ?_
        obtain ⟨v73, e_v73, h⟩ := letv_e h
        refine V.iinc (v := v73) (lv' := [(4, .int v73), (0, rf Z 44), (1, rf Z 33), (2, .int a2), (3, .int a3), (5, .int y28_5)]) d_Wa_step_73 4 rfl (by rw [e_v73]; rfl) (by decide) rfl ?_
        refine V.goto (tgt := 9) d_Wa_step_76 (by decide) ?_
        exact V.pick [1, 2, 3, 4, 0] rfl (ih _ _ _ h hg)
      replace h := h1
      refine V.if_eq (tgt := 64) d_Wa_step_28 (by decide) (fun hc28 => ?_) (fun hc28 => ?_)
      · replace h := ite_t hc28 h
        exact V.pick [1, 2, 3, 4, 5, 0] rfl (J28_64 _ (Option.some.inj h).symm)
      · replace h := ite_f hc28 h
        refine V.aload_n d_Wa_step_31 rfl 1 rfl ?_
        refine V.iload d_Wa_step_32 5 rfl ?_
        obtain ⟨r34, h1, h⟩ := bnd1_e h
        refine V.vI (as := [.int x4]) (st := []) (c_Wa_leastAround Z h1) k_Wa_leastAround lk_Wa_48 (by decide) rfl (by decide) ly_44 ok_Wa.1 rfl (Nat.le_of_ble_eq_true rfl) d_Wa_step_34 ?_
        refine V.istore (lv' := [(5, .int r34), (0, rf Z 44), (1, rf Z 33), (2, .int a2), (3, .int a3), (4, .int x4)]) d_Wa_step_37 (by decide) rfl ?_
        refine V.iload d_Wa_step_39 0 rfl ?_
        refine V.sipush (v := 1000) d_Wa_step_41 (by decide) ?_
        refine V.icmp_ge (tgt := 64) d_Wa_step_44 (by decide) (fun hc44 => ?_) (fun hc44 => ?_)
        · replace h := ite_t hc44 h
          exact V.pick [1, 2, 3, 4, 5, 0] rfl (J28_64 _ (Option.some.inj h).symm)
        · replace h := ite_f hc44 h
          refine V.iload_n d_Wa_step_47 rfl 4 rfl ?_
          refine V.if_eq (tgt := 64) d_Wa_step_48 (by decide) (fun hc48 => ?_) (fun hc48 => ?_)
          · replace h := ite_t hc48 h
            exact V.pick [1, 2, 3, 4, 5, 0] rfl (J28_64 _ (Option.some.inj h).symm)
          · replace h := ite_f hc48 h
            refine V.aload_n d_Wa_step_51 rfl 2 rfl ?_
            refine V.iload_n d_Wa_step_52 rfl 3 rfl ?_
            refine V.iload d_Wa_step_53 5 rfl ?_
            obtain ⟨r55, h1, h⟩ := bnd1_e h
            refine V.vI (as := [.int a2, .int x4]) (st := []) (c_Da_whoCasts Z h1) k_Da_whoCasts lk_Wa_52 (by decide) rfl (by decide) ly_33 ok_Da.1 rfl (Nat.le_of_ble_eq_true rfl) d_Wa_step_55 ?_
            refine V.if_ne (tgt := 64) d_Wa_step_58 (by decide) (fun hc58 => ?_) (fun hc58 => ?_)
            · replace h := ite_f hc58 h
              exact V.pick [1, 2, 3, 4, 5, 0] rfl (J28_64 _ (Option.some.inj h).symm)
            · replace h := ite_t hc58 h
              obtain ⟨v61, e_v61, h⟩ := letv_e h
              refine V.iinc (v := v61) (lv' := [(5, .int v61), (0, rf Z 44), (1, rf Z 33), (2, .int a2), (3, .int a3), (4, .int x4)]) d_Wa_step_61 0 rfl (by rw [e_v61]; rfl) (by decide) rfl ?_
              exact V.pick [1, 2, 3, 4, 5, 0] rfl (J28_64 _ (Option.some.inj h).symm)
def f_Wa_step (N : Nat) (σ : Mem) (a2 : Int32) : Option (Mem) :=
  bnd1 (f_Da_isUp σ a2) fun r2 =>
  L_Wa_step_l9 N a2 r2 N 0 σ
set_option maxHeartbeats 4000000 in
set_option maxRecDepth 20000 in
theorem c_Wa_step (Z : ZX) {N : Nat} {σ : Mem} {a2 : Int32} {σ' : Mem} (h : f_Wa_step N σ a2 = some σ') : CN Z 2 m_Wa_step [rf Z 44, rf Z 33, .int a2] σ σ' := by
  refine Ct.of (by decide +kernel) (Nat.le_of_ble_eq_true rfl) (fun Y => ?_)
  show V (mkB Z) Y m_Wa_step 2 (QP (mkB Z) Y nC 0 0 (fun v t => v = none ∧ t = σ')) 0 0 nC σ 0 [(0, rf Z 44), (1, rf Z 33), (2, .int a2)] []
  unfold f_Wa_step at h
  refine V.aload_n d_Wa_step_0 rfl 1 rfl ?_
  refine V.iload_n d_Wa_step_1 rfl 2 rfl ?_
  obtain ⟨r2, h1, h⟩ := bnd1_e h
  refine V.vI (as := [.int a2]) (st := []) (c_Da_isUp Z h1) k_Da_isUp lk_Wa_39 (by decide) rfl (by decide) ly_33 ok_Da.1 rfl (Nat.le_of_ble_eq_true rfl) d_Wa_step_2 ?_
  refine V.istore_n (lv' := [(3, .int r2), (0, rf Z 44), (1, rf Z 33), (2, .int a2)]) d_Wa_step_5 rfl (by decide) rfl ?_
  refine V.iconst (v := 0) d_Wa_step_6 (by decide) ?_
  refine V.istore (lv' := [(4, .int 0), (3, .int r2), (0, rf Z 44), (1, rf Z 33), (2, .int a2)]) d_Wa_step_7 (by decide) rfl ?_
  refine V.pick [2, 3, 4, 1, 0] rfl (cL_Wa_step_l9 Z (Good := fun z => z = _) (fun r9m he => ?_) N _ _ _ h rfl)
  · cases he
    exact ⟨rfl, rfl⟩
abbrev m_Wa_leastSun : MI := (⟨"ShadeTown$Walks", "leastSun", "(LShadeTown$Day;III)I"⟩, prog_10_method_3_code, 7, (Option.some Jvm.ClassFile.FieldType.int))
theorem d_Wa_leastSun_0 : decode prog_10_method_3_code 0 = .ok (.aload_n 0, 1) := by decide +kernel
theorem d_Wa_leastSun_1 : decode prog_10_method_3_code 1 = .ok (.iload_n 2, 1) := by decide +kernel
theorem d_Wa_leastSun_2 : decode prog_10_method_3_code 2 = .ok (.invokevirtual 18, 3) := by decide +kernel
theorem k_Wa_begin : MOk m_Wa_begin 1 ∧ IOk m_Wa_begin := ⟨⟨atG 977 (by decide +kernel) rfl, atG 118 (by decide +kernel) rfl, ⟨by decide, by decide⟩, by decide +kernel, by decide⟩, atG 976 (by decide +kernel) rfl, atG 24 (by decide +kernel) rfl⟩
theorem lk_Wa_18 : Cond.methodLink "ShadeTown$Walks" 18 ⟨"ShadeTown$Walks", "begin", "(I)V"⟩ ∈ tblG := atG 974 (by decide +kernel) rfl
theorem d_Wa_leastSun_5 : decode prog_10_method_3_code 5 = .ok (.aload_n 0, 1) := by decide +kernel
theorem d_Wa_leastSun_6 : decode prog_10_method_3_code 6 = .ok (.getfield 9, 3) := by decide +kernel
theorem d_Wa_leastSun_9 : decode prog_10_method_3_code 9 = .ok (.iload_n 3, 1) := by decide +kernel
theorem d_Wa_leastSun_10 : decode prog_10_method_3_code 10 = .ok (.iaload, 1) := by decide +kernel
theorem d_Wa_leastSun_11 : decode prog_10_method_3_code 11 = .ok (.sipush 1000, 3) := by decide +kernel
theorem d_Wa_leastSun_14 : decode prog_10_method_3_code 14 = .ok (.imul, 1) := by decide +kernel
theorem d_Wa_leastSun_15 : decode prog_10_method_3_code 15 = .ok (.istore 5, 2) := by decide +kernel
theorem d_Wa_leastSun_17 : decode prog_10_method_3_code 17 = .ok (.iconst 0, 1) := by decide +kernel
theorem d_Wa_leastSun_18 : decode prog_10_method_3_code 18 = .ok (.istore 6, 2) := by decide +kernel
theorem d_Wa_leastSun_20 : decode prog_10_method_3_code 20 = .ok (.iload 6, 2) := by decide +kernel
theorem d_Wa_leastSun_22 : decode prog_10_method_3_code 22 = .ok (.bipush 36, 2) := by decide +kernel
theorem d_Wa_leastSun_27 : decode prog_10_method_3_code 27 = .ok (.aload_n 0, 1) := by decide +kernel
theorem d_Wa_leastSun_28 : decode prog_10_method_3_code 28 = .ok (.aload_n 1, 1) := by decide +kernel
theorem d_Wa_leastSun_29 : decode prog_10_method_3_code 29 = .ok (.iload 4, 2) := by decide +kernel
theorem d_Wa_leastSun_31 : decode prog_10_method_3_code 31 = .ok (.iload 6, 2) := by decide +kernel
theorem d_Wa_leastSun_33 : decode prog_10_method_3_code 33 = .ok (.bipush 6, 2) := by decide +kernel
theorem d_Wa_leastSun_35 : decode prog_10_method_3_code 35 = .ok (.idiv, 1) := by decide +kernel
theorem d_Wa_leastSun_36 : decode prog_10_method_3_code 36 = .ok (.iadd, 1) := by decide +kernel
theorem d_Wa_leastSun_37 : decode prog_10_method_3_code 37 = .ok (.bipush 24, 2) := by decide +kernel
theorem d_Wa_leastSun_39 : decode prog_10_method_3_code 39 = .ok (.irem, 1) := by decide +kernel
theorem d_Wa_leastSun_40 : decode prog_10_method_3_code 40 = .ok (.invokevirtual 22, 3) := by decide +kernel
theorem k_Wa_step : MOk m_Wa_step 2 ∧ IOk m_Wa_step := ⟨⟨atG 982 (by decide +kernel) rfl, atG 118 (by decide +kernel) rfl, ⟨by decide, by decide⟩, by decide +kernel, by decide⟩, atG 981 (by decide +kernel) rfl, atG 25 (by decide +kernel) rfl⟩
theorem lk_Wa_22 : Cond.methodLink "ShadeTown$Walks" 22 ⟨"ShadeTown$Walks", "step", "(LShadeTown$Day;I)V"⟩ ∈ tblG := atG 979 (by decide +kernel) rfl
theorem d_Wa_leastSun_43 : decode prog_10_method_3_code 43 = .ok (.iload 5, 2) := by decide +kernel
theorem d_Wa_leastSun_45 : decode prog_10_method_3_code 45 = .ok (.aload_n 0, 1) := by decide +kernel
theorem d_Wa_leastSun_46 : decode prog_10_method_3_code 46 = .ok (.getfield 9, 3) := by decide +kernel
theorem d_Wa_leastSun_49 : decode prog_10_method_3_code 49 = .ok (.iload_n 3, 1) := by decide +kernel
theorem d_Wa_leastSun_50 : decode prog_10_method_3_code 50 = .ok (.iaload, 1) := by decide +kernel
theorem d_Wa_leastSun_51 : decode prog_10_method_3_code 51 = .ok (.sipush 1000, 3) := by decide +kernel
theorem d_Wa_leastSun_54 : decode prog_10_method_3_code 54 = .ok (.imul, 1) := by decide +kernel
theorem d_Wa_leastSun_55 : decode prog_10_method_3_code 55 = .ok (.iload 6, 2) := by decide +kernel
theorem d_Wa_leastSun_57 : decode prog_10_method_3_code 57 = .ok (.iadd, 1) := by decide +kernel
theorem d_Wa_leastSun_58 : decode prog_10_method_3_code 58 = .ok (.iconst 1, 1) := by decide +kernel
theorem d_Wa_leastSun_59 : decode prog_10_method_3_code 59 = .ok (.iadd, 1) := by decide +kernel
theorem d_Wa_leastSun_60 : decode prog_10_method_3_code 60 = .ok (.invokestatic 26, 3) := by decide +kernel
theorem d_Wa_leastSun_63 : decode prog_10_method_3_code 63 = .ok (.istore 5, 2) := by decide +kernel
theorem d_Wa_leastSun_65 : decode prog_10_method_3_code 65 = .ok (.iinc 6 1, 3) := by decide +kernel
theorem d_Wa_leastSun_68 : decode prog_10_method_3_code 68 = .ok (.goto (-48), 3) := by decide +kernel
theorem d_Wa_leastSun_24 : decode prog_10_method_3_code 24 = .ok (.if_icmp .ge 47, 3) := by decide +kernel
theorem d_Wa_leastSun_71 : decode prog_10_method_3_code 71 = .ok (.iload 5, 2) := by decide +kernel
theorem kc_Wa_32 : Cond.constant "ShadeTown$Walks" 32 (1000000) ∈ tblG := atG 995 (by decide +kernel) rfl
theorem d_Wa_leastSun_73 : decode prog_10_method_3_code 73 = .ok (.ldc 32, 2) := by decide +kernel
theorem d_Wa_leastSun_83 : decode prog_10_method_3_code 83 = .ok (.bipush (-2), 2) := by decide +kernel
theorem d_Wa_leastSun_85 : decode prog_10_method_3_code 85 = .ok (.ireturn, 1) := by decide +kernel
theorem d_Wa_leastSun_78 : decode prog_10_method_3_code 78 = .ok (.iload 5, 2) := by decide +kernel
theorem d_Wa_leastSun_80 : decode prog_10_method_3_code 80 = .ok (.goto 5, 3) := by decide +kernel
theorem d_Wa_leastSun_75 : decode prog_10_method_3_code 75 = .ok (.if_icmp .ge 8, 3) := by decide +kernel
def B_Wa_leastSun_l20 (N : Nat) (a3 : Int32) (a4 : Int32) (rec : Int32 → Int32 → Mem → Option (Int32 × Mem)) (x5 : Int32) (x6 : Int32) (σ : Mem) : Option (Int32 × Mem) :=
  if 36 ≤ x6 then
    (some (x5, σ))
  else
    (bnd1 (f_Wa_step N σ ((a4 + (x6 / 6)) - (a4 + (x6 / 6)) / 24 * 24)) fun σ40 =>
    bnd1 (drf σ40 44 0) fun w46 =>
    grd (inb a3 144) <|
    bnd1 (f_JM_min_7cf53 x5 ((((mI σ40 w46 (a3.toNatClampNeg)) * 1000) + x6) + 1)) fun r60 =>
    letv (x6 + 1) fun v65 =>
    rec r60 v65 σ40)
def L_Wa_leastSun_l20 (N : Nat) (a3 : Int32) (a4 : Int32) : Nat → Int32 → Int32 → Mem → Option (Int32 × Mem)
  | 0, _, _, _ => none
  | k + 1, x5, x6, σ => B_Wa_leastSun_l20 N a3 a4 (L_Wa_leastSun_l20 N a3 a4 k) x5 x6 σ
set_option maxHeartbeats 4000000 in
set_option maxRecDepth 20000 in
theorem cL_Wa_leastSun_l20 (Z : ZX) {Y : YX} {Q : State → Prop} {N : Nat} {a3 : Int32} {a4 : Int32} {Good : Int32 × Mem → Prop} (hE : ∀ (o5 : Int32) (σe : Mem), Good (o5, σe) → V (mkB Z) Y m_Wa_leastSun 3 Q 0 0 nC σe 71 [(5, .int o5)] []) : ∀ (k : Nat) (x5 : Int32) (x6 : Int32) (σ : Mem) (res : Int32 × Mem), L_Wa_leastSun_l20 N a3 a4 k x5 x6 σ = some res → Good res → V (mkB Z) Y m_Wa_leastSun 3 Q 0 0 nC σ 20 [(0, rf Z 44), (1, rf Z 33), (3, .int a3), (4, .int a4), (5, .int x5), (6, .int x6)] [] := by
  intro k
  induction k with
  | zero => intro x5 x6 σ res h; cases h
  | succ k ih =>
    intro x5 x6 σ res h hg
    replace h : B_Wa_leastSun_l20 N a3 a4 (L_Wa_leastSun_l20 N a3 a4 k) x5 x6 σ = some res := h
    unfold B_Wa_leastSun_l20 at h
    refine V.iload d_Wa_leastSun_20 5 rfl ?_
    refine V.bipush (v := 36) d_Wa_leastSun_22 (by decide) ?_
    refine V.icmp_ge (tgt := 71) d_Wa_leastSun_24 (by decide) (fun hc24 => ?_) (fun hc24 => ?_)
    · replace h := ite_t hc24 h
      cases h
      exact V.pick [4] rfl (hE _ _ hg)
    · replace h := ite_f hc24 h
      refine V.aload_n d_Wa_leastSun_27 rfl 0 rfl ?_
      refine V.aload_n d_Wa_leastSun_28 rfl 1 rfl ?_
      refine V.iload d_Wa_leastSun_29 3 rfl ?_
      refine V.iload d_Wa_leastSun_31 5 rfl ?_
      refine V.bipush (v := 6) d_Wa_leastSun_33 (by decide) ?_
      refine V.idiv d_Wa_leastSun_35 (by decide) ?_
      refine V.iadd d_Wa_leastSun_36 ?_
      refine V.bipush (v := 24) d_Wa_leastSun_37 (by decide) ?_
      refine V.irem d_Wa_leastSun_39 (by decide) ?_
      obtain ⟨σ40, h1, h⟩ := bnd1_e h
      refine V.vN (as := [rf Z 33, .int ((a4 + (x6 / 6)) - (a4 + (x6 / 6)) / 24 * 24)]) (st := []) (c_Wa_step Z h1) k_Wa_step lk_Wa_22 (by decide) rfl (by decide) ly_44 ok_Wa.1 rfl (Nat.le_of_ble_eq_true rfl) d_Wa_leastSun_40 ?_
      refine V.iload d_Wa_leastSun_43 4 rfl ?_
      refine V.aload_n d_Wa_leastSun_45 rfl 0 rfl ?_
      obtain ⟨w46, hw, h⟩ := bnd1_e h
      obtain ⟨hr_w46, hk_w46, hy_w46⟩ := drf_e hw
      refine V.getM ok_Wa fl_Wa_9 (by decide) (by decide) ly_44 rfl hr_w46 d_Wa_leastSun_46 ?_
      refine V.iload_n d_Wa_leastSun_49 rfl 2 rfl ?_
      obtain ⟨gq, h⟩ := grd_e h
      refine V.ra hk_w46 hy_w46 (inb_e gq) rfl d_Wa_leastSun_50 ?_
      refine V.sipush (v := 1000) d_Wa_leastSun_51 (by decide) ?_
      refine V.imul d_Wa_leastSun_54 ?_
      refine V.iload d_Wa_leastSun_55 5 rfl ?_
      refine V.iadd d_Wa_leastSun_57 ?_
      refine V.iconst (v := 1) d_Wa_leastSun_58 (by decide) ?_
      refine V.iadd d_Wa_leastSun_59 ?_
      obtain ⟨r60, h1, h⟩ := bnd1_e h
      refine V.sI (as := [.int x5, .int ((((mI σ40 w46 (a3.toNatClampNeg)) * 1000) + x6) + 1)]) (st := []) (c_JM_min_7cf53 Z h1) k_JM_min_7cf53 lk_Wa_26 (by decide) rfl rfl (Nat.le_of_ble_eq_true rfl) d_Wa_leastSun_60 ?_
      refine V.istore (lv' := [(5, .int r60), (0, rf Z 44), (1, rf Z 33), (3, .int a3), (4, .int a4), (6, .int x6)]) d_Wa_leastSun_63 (by decide) rfl ?_
      obtain ⟨v65, e_v65, h⟩ := letv_e h
      refine V.iinc (v := v65) (lv' := [(6, .int v65), (5, .int r60), (0, rf Z 44), (1, rf Z 33), (3, .int a3), (4, .int a4)]) d_Wa_leastSun_65 5 rfl (by rw [e_v65]; rfl) (by decide) rfl ?_
      refine V.goto (tgt := 20) d_Wa_leastSun_68 (by decide) ?_
      exact V.pick [2, 3, 4, 5, 1, 0] rfl (ih _ _ _ _ h hg)
def f_Wa_leastSun (N : Nat) (σ : Mem) (a2 : Int32) (a3 : Int32) (a4 : Int32) : Option (Int32 × Mem) :=
  bnd1 (f_Wa_begin N σ a2) fun σ2 =>
  bnd1 (drf σ2 44 0) fun w6 =>
  grd (inb a3 144) <|
  letv ((mI σ2 w6 (a3.toNatClampNeg)) * 1000) fun v15 =>
  bnd1 (L_Wa_leastSun_l20 N a3 a4 N v15 0 σ2) fun x20_ =>
  q2 x20_ fun z20_5 σ20_ =>
  if 1000000 ≤ z20_5 then
    (some ((-2), σ20_))
  else
    (some (z20_5, σ20_))
set_option maxHeartbeats 4000000 in
set_option maxRecDepth 20000 in
theorem c_Wa_leastSun (Z : ZX) {N : Nat} {σ : Mem} {a2 : Int32} {a3 : Int32} {a4 : Int32} {r : Int32} {σ' : Mem} (h : f_Wa_leastSun N σ a2 a3 a4 = some (r, σ')) : CI Z 3 m_Wa_leastSun [rf Z 44, rf Z 33, .int a2, .int a3, .int a4] σ r σ' := by
  refine Ct.of (by decide +kernel) (Nat.le_of_ble_eq_true rfl) (fun Y => ?_)
  show V (mkB Z) Y m_Wa_leastSun 3 (QP (mkB Z) Y nC 0 0 (fun v t => v = some (.int r) ∧ t = σ')) 0 0 nC σ 0 [(0, rf Z 44), (1, rf Z 33), (2, .int a2), (3, .int a3), (4, .int a4)] []
  unfold f_Wa_leastSun at h
  refine V.aload_n d_Wa_leastSun_0 rfl 0 rfl ?_
  refine V.iload_n d_Wa_leastSun_1 rfl 2 rfl ?_
  obtain ⟨σ2, h1, h⟩ := bnd1_e h
  refine V.vN (as := [.int a2]) (st := []) (c_Wa_begin Z h1) k_Wa_begin lk_Wa_18 (by decide) rfl (by decide) ly_44 ok_Wa.1 rfl (Nat.le_of_ble_eq_true rfl) d_Wa_leastSun_2 ?_
  refine V.aload_n d_Wa_leastSun_5 rfl 0 rfl ?_
  obtain ⟨w6, hw, h⟩ := bnd1_e h
  obtain ⟨hr_w6, hk_w6, hy_w6⟩ := drf_e hw
  refine V.getM ok_Wa fl_Wa_9 (by decide) (by decide) ly_44 rfl hr_w6 d_Wa_leastSun_6 ?_
  refine V.iload_n d_Wa_leastSun_9 rfl 3 rfl ?_
  obtain ⟨gq, h⟩ := grd_e h
  refine V.ra hk_w6 hy_w6 (inb_e gq) rfl d_Wa_leastSun_10 ?_
  refine V.sipush (v := 1000) d_Wa_leastSun_11 (by decide) ?_
  refine V.imul d_Wa_leastSun_14 ?_
  obtain ⟨v15, e_v15, h⟩ := letv_e h
  refine V.topI e_v15 ?_
  refine V.istore (lv' := [(5, .int v15), (0, rf Z 44), (1, rf Z 33), (2, .int a2), (3, .int a3), (4, .int a4)]) d_Wa_leastSun_15 (by decide) rfl ?_
  refine V.iconst (v := 0) d_Wa_leastSun_17 (by decide) ?_
  refine V.istore (lv' := [(6, .int 0), (5, .int v15), (0, rf Z 44), (1, rf Z 33), (2, .int a2), (3, .int a3), (4, .int a4)]) d_Wa_leastSun_18 (by decide) rfl ?_
  obtain ⟨x20_, h1, h⟩ := bnd1_e h
  refine V.pick [2, 3, 5, 6, 1, 0] rfl (cL_Wa_leastSun_l20 Z (Good := fun z => x20_ = z) (fun z20_5 σ20_ he => ?_) N _ _ _ _ h1 rfl)
  · rw [he] at h
    replace h := q2_e h
    refine V.iload d_Wa_leastSun_71 0 rfl ?_
    refine V.ldc (v := 1000000) kc_Wa_32 d_Wa_leastSun_73 ?_
    refine V.icmp_ge (tgt := 83) d_Wa_leastSun_75 (by decide) (fun hc75 => ?_) (fun hc75 => ?_)
    · replace h := ite_t hc75 h
      refine V.bipush (v := (-2)) d_Wa_leastSun_83 (by decide) ?_
      cases h
      exact V.iret rfl d_Wa_leastSun_85 ⟨rfl, rfl⟩
    · replace h := ite_f hc75 h
      refine V.iload d_Wa_leastSun_78 0 rfl ?_
      refine V.goto (tgt := 85) d_Wa_leastSun_80 (by decide) ?_
      cases h
      exact V.iret rfl d_Wa_leastSun_85 ⟨rfl, rfl⟩
abbrev m_Wa_partsOf : MI := (⟨"ShadeTown$Walks", "partsOf", "(I)I"⟩, prog_10_method_5_code, 2, (Option.some Jvm.ClassFile.FieldType.int))
theorem d_Wa_partsOf_0 : decode prog_10_method_5_code 0 = .ok (.iload_n 1, 1) := by decide +kernel
theorem d_Wa_partsOf_1 : decode prog_10_method_5_code 1 = .ok (.sipush 1000, 3) := by decide +kernel
theorem d_Wa_partsOf_4 : decode prog_10_method_5_code 4 = .ok (.irem, 1) := by decide +kernel
theorem d_Wa_partsOf_5 : decode prog_10_method_5_code 5 = .ok (.ireturn, 1) := by decide +kernel
def f_Wa_partsOf (a1 : Int32) : Option (Int32) :=
  some (a1 - a1 / 1000 * 1000)
set_option maxHeartbeats 4000000 in
set_option maxRecDepth 20000 in
theorem c_Wa_partsOf (Z : ZX) {σ : Mem} {a1 : Int32} {r : Int32} (h : f_Wa_partsOf a1 = some r) : CI Z 0 m_Wa_partsOf [rf Z 44, .int a1] σ r σ := by
  refine Ct.of (by decide +kernel) (Nat.le_of_ble_eq_true rfl) (fun Y => ?_)
  show V (mkB Z) Y m_Wa_partsOf 0 (QP (mkB Z) Y nC 0 0 (fun v t => v = some (.int r) ∧ t = σ)) 0 0 nC σ 0 [(0, rf Z 44), (1, .int a1)] []
  unfold f_Wa_partsOf at h
  refine V.iload_n d_Wa_partsOf_0 rfl 1 rfl ?_
  refine V.sipush (v := 1000) d_Wa_partsOf_1 (by decide) ?_
  refine V.irem d_Wa_partsOf_4 (by decide) ?_
  cases h
  exact V.iret rfl d_Wa_partsOf_5 ⟨rfl, rfl⟩
abbrev m_Wa_sunOf : MI := (⟨"ShadeTown$Walks", "sunOf", "(I)I"⟩, prog_10_method_4_code, 2, (Option.some Jvm.ClassFile.FieldType.int))
theorem d_Wa_sunOf_0 : decode prog_10_method_4_code 0 = .ok (.iload_n 1, 1) := by decide +kernel
theorem d_Wa_sunOf_1 : decode prog_10_method_4_code 1 = .ok (.sipush 1000, 3) := by decide +kernel
theorem d_Wa_sunOf_4 : decode prog_10_method_4_code 4 = .ok (.idiv, 1) := by decide +kernel
theorem d_Wa_sunOf_5 : decode prog_10_method_4_code 5 = .ok (.ireturn, 1) := by decide +kernel
def f_Wa_sunOf (a1 : Int32) : Option (Int32) :=
  some (a1 / 1000)
set_option maxHeartbeats 4000000 in
set_option maxRecDepth 20000 in
theorem c_Wa_sunOf (Z : ZX) {σ : Mem} {a1 : Int32} {r : Int32} (h : f_Wa_sunOf a1 = some r) : CI Z 0 m_Wa_sunOf [rf Z 44, .int a1] σ r σ := by
  refine Ct.of (by decide +kernel) (Nat.le_of_ble_eq_true rfl) (fun Y => ?_)
  show V (mkB Z) Y m_Wa_sunOf 0 (QP (mkB Z) Y nC 0 0 (fun v t => v = some (.int r) ∧ t = σ)) 0 0 nC σ 0 [(0, rf Z 44), (1, .int a1)] []
  unfold f_Wa_sunOf at h
  refine V.iload_n d_Wa_sunOf_0 rfl 1 rfl ?_
  refine V.sipush (v := 1000) d_Wa_sunOf_1 (by decide) ?_
  refine V.idiv d_Wa_sunOf_4 (by decide) ?_
  cases h
  exact V.iret rfl d_Wa_sunOf_5 ⟨rfl, rfl⟩
abbrev m_Wa_soonestInShade : MI := (⟨"ShadeTown$Walks", "soonestInShade", "(LShadeTown$Day;III)I"⟩, prog_10_method_2_code, 6, (Option.some Jvm.ClassFile.FieldType.int))
theorem d_Wa_soonestInShade_0 : decode prog_10_method_2_code 0 = .ok (.aload_n 0, 1) := by decide +kernel
theorem d_Wa_soonestInShade_1 : decode prog_10_method_2_code 1 = .ok (.iload_n 2, 1) := by decide +kernel
theorem d_Wa_soonestInShade_2 : decode prog_10_method_2_code 2 = .ok (.invokevirtual 18, 3) := by decide +kernel
theorem d_Wa_soonestInShade_5 : decode prog_10_method_2_code 5 = .ok (.iconst 0, 1) := by decide +kernel
theorem d_Wa_soonestInShade_6 : decode prog_10_method_2_code 6 = .ok (.istore 5, 2) := by decide +kernel
theorem d_Wa_soonestInShade_8 : decode prog_10_method_2_code 8 = .ok (.iload 5, 2) := by decide +kernel
theorem d_Wa_soonestInShade_10 : decode prog_10_method_2_code 10 = .ok (.bipush 72, 2) := by decide +kernel
theorem d_Wa_soonestInShade_15 : decode prog_10_method_2_code 15 = .ok (.aload_n 0, 1) := by decide +kernel
theorem d_Wa_soonestInShade_16 : decode prog_10_method_2_code 16 = .ok (.getfield 9, 3) := by decide +kernel
theorem d_Wa_soonestInShade_19 : decode prog_10_method_2_code 19 = .ok (.iload_n 3, 1) := by decide +kernel
theorem d_Wa_soonestInShade_20 : decode prog_10_method_2_code 20 = .ok (.iaload, 1) := by decide +kernel
theorem d_Wa_soonestInShade_27 : decode prog_10_method_2_code 27 = .ok (.aload_n 0, 1) := by decide +kernel
theorem d_Wa_soonestInShade_28 : decode prog_10_method_2_code 28 = .ok (.aload_n 1, 1) := by decide +kernel
theorem d_Wa_soonestInShade_29 : decode prog_10_method_2_code 29 = .ok (.iload 4, 2) := by decide +kernel
theorem d_Wa_soonestInShade_31 : decode prog_10_method_2_code 31 = .ok (.iload 5, 2) := by decide +kernel
theorem d_Wa_soonestInShade_33 : decode prog_10_method_2_code 33 = .ok (.bipush 6, 2) := by decide +kernel
theorem d_Wa_soonestInShade_35 : decode prog_10_method_2_code 35 = .ok (.idiv, 1) := by decide +kernel
theorem d_Wa_soonestInShade_36 : decode prog_10_method_2_code 36 = .ok (.iadd, 1) := by decide +kernel
theorem d_Wa_soonestInShade_37 : decode prog_10_method_2_code 37 = .ok (.bipush 24, 2) := by decide +kernel
theorem d_Wa_soonestInShade_39 : decode prog_10_method_2_code 39 = .ok (.irem, 1) := by decide +kernel
theorem d_Wa_soonestInShade_40 : decode prog_10_method_2_code 40 = .ok (.invokevirtual 22, 3) := by decide +kernel
theorem d_Wa_soonestInShade_43 : decode prog_10_method_2_code 43 = .ok (.iinc 5 1, 3) := by decide +kernel
theorem d_Wa_soonestInShade_46 : decode prog_10_method_2_code 46 = .ok (.goto (-38), 3) := by decide +kernel
theorem d_Wa_soonestInShade_24 : decode prog_10_method_2_code 24 = .ok (.iload 5, 2) := by decide +kernel
theorem d_Wa_soonestInShade_26 : decode prog_10_method_2_code 26 = .ok (.ireturn, 1) := by decide +kernel
theorem d_Wa_soonestInShade_21 : decode prog_10_method_2_code 21 = .ok (.ifCond .ne 6, 3) := by decide +kernel
theorem d_Wa_soonestInShade_12 : decode prog_10_method_2_code 12 = .ok (.if_icmp .ge 37, 3) := by decide +kernel
theorem d_Wa_soonestInShade_49 : decode prog_10_method_2_code 49 = .ok (.aload_n 0, 1) := by decide +kernel
theorem d_Wa_soonestInShade_50 : decode prog_10_method_2_code 50 = .ok (.getfield 9, 3) := by decide +kernel
theorem d_Wa_soonestInShade_53 : decode prog_10_method_2_code 53 = .ok (.iload_n 3, 1) := by decide +kernel
theorem d_Wa_soonestInShade_54 : decode prog_10_method_2_code 54 = .ok (.iaload, 1) := by decide +kernel
theorem d_Wa_soonestInShade_63 : decode prog_10_method_2_code 63 = .ok (.bipush (-2), 2) := by decide +kernel
theorem d_Wa_soonestInShade_65 : decode prog_10_method_2_code 65 = .ok (.ireturn, 1) := by decide +kernel
theorem d_Wa_soonestInShade_58 : decode prog_10_method_2_code 58 = .ok (.bipush 72, 2) := by decide +kernel
theorem d_Wa_soonestInShade_60 : decode prog_10_method_2_code 60 = .ok (.goto 5, 3) := by decide +kernel
theorem d_Wa_soonestInShade_55 : decode prog_10_method_2_code 55 = .ok (.ifCond .ne 8, 3) := by decide +kernel
def B_Wa_soonestInShade_l8 (N : Nat) (a3 : Int32) (a4 : Int32) (rec : Int32 → Mem → Option ((Int32 × Mem) ⊕ (Mem))) (x5 : Int32) (σ : Mem) : Option ((Int32 × Mem) ⊕ (Mem)) :=
  if 72 ≤ x5 then
    (some (.inr σ))
  else
    (bnd1 (drf σ 44 0) fun w16 =>
    grd (inb a3 144) <|
    if (mI σ w16 (a3.toNatClampNeg)) = 0 then
      (some (.inl (x5, σ)))
    else
      (bnd1 (f_Wa_step N σ ((a4 + (x5 / 6)) - (a4 + (x5 / 6)) / 24 * 24)) fun σ40 =>
      letv (x5 + 1) fun v43 =>
      rec v43 σ40))
def L_Wa_soonestInShade_l8 (N : Nat) (a3 : Int32) (a4 : Int32) : Nat → Int32 → Mem → Option ((Int32 × Mem) ⊕ (Mem))
  | 0, _, _ => none
  | k + 1, x5, σ => B_Wa_soonestInShade_l8 N a3 a4 (L_Wa_soonestInShade_l8 N a3 a4 k) x5 σ
set_option maxHeartbeats 4000000 in
set_option maxRecDepth 20000 in
theorem cL_Wa_soonestInShade_l8 (Z : ZX) {Y : YX} {post : Option Value → Mem → Prop} {N : Nat} {a3 : Int32} {a4 : Int32} {Good : (Int32 × Mem) ⊕ (Mem) → Prop} (hE : ∀ (σe : Mem), Good (.inr σe) → V (mkB Z) Y m_Wa_soonestInShade 3 (QP (mkB Z) Y nC 0 0 post) 0 0 nC σe 49 [(0, rf Z 44), (3, .int a3)] []) (hR : ∀ (v : Int32) (σr : Mem), Good (.inl (v, σr)) → post (some (.int v)) σr) : ∀ (k : Nat) (x5 : Int32) (σ : Mem) (res : (Int32 × Mem) ⊕ (Mem)), L_Wa_soonestInShade_l8 N a3 a4 k x5 σ = some res → Good res → V (mkB Z) Y m_Wa_soonestInShade 3 (QP (mkB Z) Y nC 0 0 post) 0 0 nC σ 8 [(0, rf Z 44), (1, rf Z 33), (3, .int a3), (4, .int a4), (5, .int x5)] [] := by
  intro k
  induction k with
  | zero => intro x5 σ res h; cases h
  | succ k ih =>
    intro x5 σ res h hg
    replace h : B_Wa_soonestInShade_l8 N a3 a4 (L_Wa_soonestInShade_l8 N a3 a4 k) x5 σ = some res := h
    unfold B_Wa_soonestInShade_l8 at h
    refine V.iload d_Wa_soonestInShade_8 4 rfl ?_
    refine V.bipush (v := 72) d_Wa_soonestInShade_10 (by decide) ?_
    refine V.icmp_ge (tgt := 49) d_Wa_soonestInShade_12 (by decide) (fun hc12 => ?_) (fun hc12 => ?_)
    · replace h := ite_t hc12 h
      cases h
      exact V.pick [0, 2] rfl (hE _ hg)
    · replace h := ite_f hc12 h
      refine V.aload_n d_Wa_soonestInShade_15 rfl 0 rfl ?_
      obtain ⟨w16, hw, h⟩ := bnd1_e h
      obtain ⟨hr_w16, hk_w16, hy_w16⟩ := drf_e hw
      refine V.getM ok_Wa fl_Wa_9 (by decide) (by decide) ly_44 rfl hr_w16 d_Wa_soonestInShade_16 ?_
      refine V.iload_n d_Wa_soonestInShade_19 rfl 2 rfl ?_
      obtain ⟨gq, h⟩ := grd_e h
      refine V.ra hk_w16 hy_w16 (inb_e gq) rfl d_Wa_soonestInShade_20 ?_
      refine V.if_ne (tgt := 27) d_Wa_soonestInShade_21 (by decide) (fun hc21 => ?_) (fun hc21 => ?_)
      · replace h := ite_f hc21 h
        refine V.aload_n d_Wa_soonestInShade_27 rfl 0 rfl ?_
        refine V.aload_n d_Wa_soonestInShade_28 rfl 1 rfl ?_
        refine V.iload d_Wa_soonestInShade_29 3 rfl ?_
        refine V.iload d_Wa_soonestInShade_31 4 rfl ?_
        refine V.bipush (v := 6) d_Wa_soonestInShade_33 (by decide) ?_
        refine V.idiv d_Wa_soonestInShade_35 (by decide) ?_
        refine V.iadd d_Wa_soonestInShade_36 ?_
        refine V.bipush (v := 24) d_Wa_soonestInShade_37 (by decide) ?_
        refine V.irem d_Wa_soonestInShade_39 (by decide) ?_
        obtain ⟨σ40, h1, h⟩ := bnd1_e h
        refine V.vN (as := [rf Z 33, .int ((a4 + (x5 / 6)) - (a4 + (x5 / 6)) / 24 * 24)]) (st := []) (c_Wa_step Z h1) k_Wa_step lk_Wa_22 (by decide) rfl (by decide) ly_44 ok_Wa.1 rfl (Nat.le_of_ble_eq_true rfl) d_Wa_soonestInShade_40 ?_
        obtain ⟨v43, e_v43, h⟩ := letv_e h
        refine V.iinc (v := v43) (lv' := [(5, .int v43), (0, rf Z 44), (1, rf Z 33), (3, .int a3), (4, .int a4)]) d_Wa_soonestInShade_43 4 rfl (by rw [e_v43]; rfl) (by decide) rfl ?_
        refine V.goto (tgt := 8) d_Wa_soonestInShade_46 (by decide) ?_
        exact V.pick [1, 2, 3, 4, 0] rfl (ih _ _ _ h hg)
      · replace h := ite_t hc21 h
        refine V.iload d_Wa_soonestInShade_24 4 rfl ?_
        cases h
        exact V.iret rfl d_Wa_soonestInShade_26 (hR _ _ hg)
def f_Wa_soonestInShade (N : Nat) (σ : Mem) (a2 : Int32) (a3 : Int32) (a4 : Int32) : Option (Int32 × Mem) :=
  bnd1 (f_Wa_begin N σ a2) fun σ2 =>
  bnd1 (L_Wa_soonestInShade_l8 N a3 a4 N 0 σ2) fun x8_ =>
  sm x8_ (fun r8_ => some r8_) fun σ8_ =>
  bnd1 (drf σ8_ 44 0) fun w50 =>
  grd (inb a3 144) <|
  if (mI σ8_ w50 (a3.toNatClampNeg)) = 0 then
    (some (72, σ8_))
  else
    (some ((-2), σ8_))
set_option maxHeartbeats 4000000 in
set_option maxRecDepth 20000 in
theorem c_Wa_soonestInShade (Z : ZX) {N : Nat} {σ : Mem} {a2 : Int32} {a3 : Int32} {a4 : Int32} {r : Int32} {σ' : Mem} (h : f_Wa_soonestInShade N σ a2 a3 a4 = some (r, σ')) : CI Z 3 m_Wa_soonestInShade [rf Z 44, rf Z 33, .int a2, .int a3, .int a4] σ r σ' := by
  refine Ct.of (by decide +kernel) (Nat.le_of_ble_eq_true rfl) (fun Y => ?_)
  show V (mkB Z) Y m_Wa_soonestInShade 3 (QP (mkB Z) Y nC 0 0 (fun v t => v = some (.int r) ∧ t = σ')) 0 0 nC σ 0 [(0, rf Z 44), (1, rf Z 33), (2, .int a2), (3, .int a3), (4, .int a4)] []
  unfold f_Wa_soonestInShade at h
  refine V.aload_n d_Wa_soonestInShade_0 rfl 0 rfl ?_
  refine V.iload_n d_Wa_soonestInShade_1 rfl 2 rfl ?_
  obtain ⟨σ2, h1, h⟩ := bnd1_e h
  refine V.vN (as := [.int a2]) (st := []) (c_Wa_begin Z h1) k_Wa_begin lk_Wa_18 (by decide) rfl (by decide) ly_44 ok_Wa.1 rfl (Nat.le_of_ble_eq_true rfl) d_Wa_soonestInShade_2 ?_
  refine V.iconst (v := 0) d_Wa_soonestInShade_5 (by decide) ?_
  refine V.istore (lv' := [(5, .int 0), (0, rf Z 44), (1, rf Z 33), (2, .int a2), (3, .int a3), (4, .int a4)]) d_Wa_soonestInShade_6 (by decide) rfl ?_
  obtain ⟨x8_, h1, h⟩ := bnd1_e h
  refine V.pick [1, 2, 4, 5, 0] rfl (cL_Wa_soonestInShade_l8 Z (Good := fun z => x8_ = z) (fun σ8_ he => ?_) (fun r8v r8m he => ?_) N _ _ _ h1 rfl)
  · rw [he] at h
    replace h := sm_r h
    refine V.aload_n d_Wa_soonestInShade_49 rfl 0 rfl ?_
    obtain ⟨w50, hw, h⟩ := bnd1_e h
    obtain ⟨hr_w50, hk_w50, hy_w50⟩ := drf_e hw
    refine V.getM ok_Wa fl_Wa_9 (by decide) (by decide) ly_44 rfl hr_w50 d_Wa_soonestInShade_50 ?_
    refine V.iload_n d_Wa_soonestInShade_53 rfl 1 rfl ?_
    obtain ⟨gq, h⟩ := grd_e h
    refine V.ra hk_w50 hy_w50 (inb_e gq) rfl d_Wa_soonestInShade_54 ?_
    refine V.if_ne (tgt := 63) d_Wa_soonestInShade_55 (by decide) (fun hc55 => ?_) (fun hc55 => ?_)
    · replace h := ite_f hc55 h
      refine V.bipush (v := (-2)) d_Wa_soonestInShade_63 (by decide) ?_
      cases h
      exact V.iret rfl d_Wa_soonestInShade_65 ⟨rfl, rfl⟩
    · replace h := ite_t hc55 h
      refine V.bipush (v := 72) d_Wa_soonestInShade_58 (by decide) ?_
      refine V.goto (tgt := 65) d_Wa_soonestInShade_60 (by decide) ?_
      cases h
      exact V.iret rfl d_Wa_soonestInShade_65 ⟨rfl, rfl⟩
  · rw [he] at h
    replace h := sm_l h
    cases h
    exact ⟨rfl, rfl⟩
abbrev m_Sh_walk : MI := (⟨"ShadeTown", "walk", "(IIII)I"⟩, prog_1_method_18_code, 7, (Option.some Jvm.ClassFile.FieldType.int))
theorem d_Sh_walk_0 : decode prog_1_method_18_code 0 = .ok (.aload_n 0, 1) := by decide +kernel
theorem d_Sh_walk_1 : decode prog_1_method_18_code 1 = .ok (.invokevirtual 181, 3) := by decide +kernel
theorem d_Sh_walk_4 : decode prog_1_method_18_code 4 = .ok (.astore 5, 2) := by decide +kernel
theorem d_Sh_walk_6 : decode prog_1_method_18_code 6 = .ok (.iload_n 3, 1) := by decide +kernel
theorem d_Sh_walk_7 : decode prog_1_method_18_code 7 = .ok (.invokestatic 178, 3) := by decide +kernel
theorem d_Sh_walk_42 : decode prog_1_method_18_code 42 = .ok (.iconst (-1), 1) := by decide +kernel
theorem d_Sh_walk_43 : decode prog_1_method_18_code 43 = .ok (.ireturn, 1) := by decide +kernel
theorem d_Sh_walk_13 : decode prog_1_method_18_code 13 = .ok (.iload 4, 2) := by decide +kernel
theorem d_Sh_walk_18 : decode prog_1_method_18_code 18 = .ok (.iload 4, 2) := by decide +kernel
theorem d_Sh_walk_20 : decode prog_1_method_18_code 20 = .ok (.iconst 2, 1) := by decide +kernel
theorem d_Sh_walk_24 : decode prog_1_method_18_code 24 = .ok (.aload 5, 2) := by decide +kernel
theorem d_Sh_walk_26 : decode prog_1_method_18_code 26 = .ok (.iload_n 1, 1) := by decide +kernel
theorem d_Sh_walk_27 : decode prog_1_method_18_code 27 = .ok (.invokevirtual 225, 3) := by decide +kernel
theorem d_Sh_walk_33 : decode prog_1_method_18_code 33 = .ok (.aload 5, 2) := by decide +kernel
theorem d_Sh_walk_35 : decode prog_1_method_18_code 35 = .ok (.iload_n 2, 1) := by decide +kernel
theorem d_Sh_walk_36 : decode prog_1_method_18_code 36 = .ok (.invokevirtual 225, 3) := by decide +kernel
theorem d_Sh_walk_44 : decode prog_1_method_18_code 44 = .ok (.iload 4, 2) := by decide +kernel
theorem d_Sh_walk_62 : decode prog_1_method_18_code 62 = .ok (.aload_n 0, 1) := by decide +kernel
theorem fl_Sh_68 : FL "ShadeTown" 68 T_Sh 9 := atG 428 (by decide +kernel) rfl
theorem d_Sh_walk_63 : decode prog_1_method_18_code 63 = .ok (.getfield 68, 3) := by decide +kernel
theorem d_Sh_walk_66 : decode prog_1_method_18_code 66 = .ok (.aload 5, 2) := by decide +kernel
theorem d_Sh_walk_68 : decode prog_1_method_18_code 68 = .ok (.iload_n 1, 1) := by decide +kernel
theorem d_Sh_walk_69 : decode prog_1_method_18_code 69 = .ok (.iload_n 2, 1) := by decide +kernel
theorem d_Sh_walk_70 : decode prog_1_method_18_code 70 = .ok (.iload_n 3, 1) := by decide +kernel
theorem d_Sh_walk_71 : decode prog_1_method_18_code 71 = .ok (.invokevirtual 248, 3) := by decide +kernel
theorem k_Wa_leastSun : MOk m_Wa_leastSun 4 ∧ IOk m_Wa_leastSun := ⟨⟨atG 994 (by decide +kernel) rfl, atG 118 (by decide +kernel) rfl, ⟨by decide, by decide⟩, by decide +kernel, by decide⟩, atG 992 (by decide +kernel) rfl, atG 993 (by decide +kernel) rfl⟩
theorem lk_Sh_248 : Cond.methodLink "ShadeTown" 248 ⟨"ShadeTown$Walks", "leastSun", "(LShadeTown$Day;III)I"⟩ ∈ tblG := atG 991 (by decide +kernel) rfl
theorem d_Sh_walk_74 : decode prog_1_method_18_code 74 = .ok (.istore 6, 2) := by decide +kernel
theorem d_Sh_walk_76 : decode prog_1_method_18_code 76 = .ok (.iload 6, 2) := by decide +kernel
theorem d_Sh_walk_84 : decode prog_1_method_18_code 84 = .ok (.iload 4, 2) := by decide +kernel
theorem d_Sh_walk_86 : decode prog_1_method_18_code 86 = .ok (.iconst 1, 1) := by decide +kernel
theorem d_Sh_walk_102 : decode prog_1_method_18_code 102 = .ok (.aload_n 0, 1) := by decide +kernel
theorem d_Sh_walk_103 : decode prog_1_method_18_code 103 = .ok (.getfield 68, 3) := by decide +kernel
theorem d_Sh_walk_106 : decode prog_1_method_18_code 106 = .ok (.iload 6, 2) := by decide +kernel
theorem d_Sh_walk_108 : decode prog_1_method_18_code 108 = .ok (.invokevirtual 254, 3) := by decide +kernel
theorem k_Wa_partsOf : MOk m_Wa_partsOf 1 ∧ IOk m_Wa_partsOf := ⟨⟨atG 1003 (by decide +kernel) rfl, atG 118 (by decide +kernel) rfl, ⟨by decide, by decide⟩, by decide +kernel, by decide⟩, atG 1001 (by decide +kernel) rfl, atG 1002 (by decide +kernel) rfl⟩
theorem lk_Sh_254 : Cond.methodLink "ShadeTown" 254 ⟨"ShadeTown$Walks", "partsOf", "(I)I"⟩ ∈ tblG := atG 1000 (by decide +kernel) rfl
theorem d_Sh_walk_111 : decode prog_1_method_18_code 111 = .ok (.ireturn, 1) := by decide +kernel
theorem d_Sh_walk_90 : decode prog_1_method_18_code 90 = .ok (.aload_n 0, 1) := by decide +kernel
theorem d_Sh_walk_91 : decode prog_1_method_18_code 91 = .ok (.getfield 68, 3) := by decide +kernel
theorem d_Sh_walk_94 : decode prog_1_method_18_code 94 = .ok (.iload 6, 2) := by decide +kernel
theorem d_Sh_walk_96 : decode prog_1_method_18_code 96 = .ok (.invokevirtual 251, 3) := by decide +kernel
theorem k_Wa_sunOf : MOk m_Wa_sunOf 1 ∧ IOk m_Wa_sunOf := ⟨⟨atG 999 (by decide +kernel) rfl, atG 118 (by decide +kernel) rfl, ⟨by decide, by decide⟩, by decide +kernel, by decide⟩, atG 997 (by decide +kernel) rfl, atG 998 (by decide +kernel) rfl⟩
theorem lk_Sh_251 : Cond.methodLink "ShadeTown" 251 ⟨"ShadeTown$Walks", "sunOf", "(I)I"⟩ ∈ tblG := atG 996 (by decide +kernel) rfl
theorem d_Sh_walk_99 : decode prog_1_method_18_code 99 = .ok (.goto 12, 3) := by decide +kernel
theorem d_Sh_walk_87 : decode prog_1_method_18_code 87 = .ok (.if_icmp .ne 15, 3) := by decide +kernel
theorem d_Sh_walk_81 : decode prog_1_method_18_code 81 = .ok (.bipush (-2), 2) := by decide +kernel
theorem d_Sh_walk_83 : decode prog_1_method_18_code 83 = .ok (.ireturn, 1) := by decide +kernel
theorem d_Sh_walk_78 : decode prog_1_method_18_code 78 = .ok (.ifCond .ge 6, 3) := by decide +kernel
theorem d_Sh_walk_49 : decode prog_1_method_18_code 49 = .ok (.aload_n 0, 1) := by decide +kernel
theorem d_Sh_walk_50 : decode prog_1_method_18_code 50 = .ok (.getfield 68, 3) := by decide +kernel
theorem d_Sh_walk_53 : decode prog_1_method_18_code 53 = .ok (.aload 5, 2) := by decide +kernel
theorem d_Sh_walk_55 : decode prog_1_method_18_code 55 = .ok (.iload_n 1, 1) := by decide +kernel
theorem d_Sh_walk_56 : decode prog_1_method_18_code 56 = .ok (.iload_n 2, 1) := by decide +kernel
theorem d_Sh_walk_57 : decode prog_1_method_18_code 57 = .ok (.iload_n 3, 1) := by decide +kernel
theorem d_Sh_walk_58 : decode prog_1_method_18_code 58 = .ok (.invokevirtual 244, 3) := by decide +kernel
theorem k_Wa_soonestInShade : MOk m_Wa_soonestInShade 4 ∧ IOk m_Wa_soonestInShade := ⟨⟨atG 973 (by decide +kernel) rfl, atG 118 (by decide +kernel) rfl, ⟨by decide, by decide⟩, by decide +kernel, by decide⟩, atG 971 (by decide +kernel) rfl, atG 972 (by decide +kernel) rfl⟩
theorem lk_Sh_244 : Cond.methodLink "ShadeTown" 244 ⟨"ShadeTown$Walks", "soonestInShade", "(LShadeTown$Day;III)I"⟩ ∈ tblG := atG 970 (by decide +kernel) rfl
theorem d_Sh_walk_61 : decode prog_1_method_18_code 61 = .ok (.ireturn, 1) := by decide +kernel
theorem d_Sh_walk_46 : decode prog_1_method_18_code 46 = .ok (.ifCond .ne 16, 3) := by decide +kernel
theorem d_Sh_walk_39 : decode prog_1_method_18_code 39 = .ok (.ifCond .ne 5, 3) := by decide +kernel
theorem d_Sh_walk_30 : decode prog_1_method_18_code 30 = .ok (.ifCond .eq 12, 3) := by decide +kernel
theorem d_Sh_walk_21 : decode prog_1_method_18_code 21 = .ok (.if_icmp .gt 21, 3) := by decide +kernel
theorem d_Sh_walk_15 : decode prog_1_method_18_code 15 = .ok (.ifCond .lt 27, 3) := by decide +kernel
theorem d_Sh_walk_10 : decode prog_1_method_18_code 10 = .ok (.ifCond .eq 32, 3) := by decide +kernel
def f_Sh_walk (N : Nat) (σ : Mem) (a1 : Int32) (a2 : Int32) (a3 : Int32) (a4 : Int32) : Option (Int32 × Mem) :=
  bnd1 (f_Sh_today N σ) fun σ1 =>
  bnd1 (f_Sh_isHour a3) fun r7 =>
  if r7 = 0 then
    (some ((-1), σ1))
  else
    (if a4 < 0 then
      (some ((-1), σ1))
    else
      (if 2 < a4 then
        (some ((-1), σ1))
      else
        (bnd1 (f_Da_isFree σ1 a1) fun r27 =>
        if r27 = 0 then
          (some ((-1), σ1))
        else
          (bnd1 (f_Da_isFree σ1 a2) fun r36 =>
          if r36 = 0 then
            (some ((-1), σ1))
          else
            (if a4 = 0 then
              (bnd2 (f_Wa_soonestInShade N σ1 a1 a2 a3) fun r58 σ58 =>
              some (r58, σ58))
            else
              (bnd2 (f_Wa_leastSun N σ1 a1 a2 a3) fun r71 σ71 =>
              if 0 ≤ r71 then
                (if a4 = 1 then
                  (bnd1 (f_Wa_sunOf r71) fun r96 =>
                  some (r96, σ71))
                else
                  (bnd1 (f_Wa_partsOf r71) fun r108 =>
                  some (r108, σ71)))
              else
                (some ((-2), σ71))))))))
set_option maxHeartbeats 4000000 in
set_option maxRecDepth 20000 in
theorem c_Sh_walk (Z : ZX) {N : Nat} {σ : Mem} {a1 : Int32} {a2 : Int32} {a3 : Int32} {a4 : Int32} {r : Int32} {σ' : Mem} (h : f_Sh_walk N σ a1 a2 a3 a4 = some (r, σ')) : CI Z 6 m_Sh_walk [rf Z 0, .int a1, .int a2, .int a3, .int a4] σ r σ' := by
  refine Ct.of (by decide +kernel) (Nat.le_of_ble_eq_true rfl) (fun Y => ?_)
  show V (mkB Z) Y m_Sh_walk 6 (QP (mkB Z) Y nC 0 0 (fun v t => v = some (.int r) ∧ t = σ')) 0 0 nC σ 0 [(0, rf Z 0), (1, .int a1), (2, .int a2), (3, .int a3), (4, .int a4)] []
  unfold f_Sh_walk at h
  refine V.aload_n d_Sh_walk_0 rfl 0 rfl ?_
  obtain ⟨σ1, h1, h⟩ := bnd1_e h
  refine V.vA (as := []) (st := []) (c_Sh_today Z h1) k_Sh_today lk_Sh_181 (by decide) rfl (by decide) ly_0 ok_Sh.1 rfl (Nat.le_of_ble_eq_true rfl) d_Sh_walk_1 ?_
  refine V.astore (lv' := [(5, rf Z 33), (0, rf Z 0), (1, .int a1), (2, .int a2), (3, .int a3), (4, .int a4)]) d_Sh_walk_4 (by decide) rfl ?_
  refine V.iload_n d_Sh_walk_6 rfl 4 rfl ?_
  obtain ⟨r7, h1, h⟩ := bnd1_e h
  refine V.sI (as := [.int a3]) (st := []) (c_Sh_isHour Z h1) k_Sh_isHour lk_Sh_178 (by decide) rfl rfl (Nat.le_of_ble_eq_true rfl) d_Sh_walk_7 ?_
  refine V.if_eq (tgt := 42) d_Sh_walk_10 (by decide) (fun hc10 => ?_) (fun hc10 => ?_)
  · replace h := ite_t hc10 h
    refine V.iconst (v := (-1)) d_Sh_walk_42 (by decide) ?_
    cases h
    exact V.iret rfl d_Sh_walk_43 ⟨rfl, rfl⟩
  · replace h := ite_f hc10 h
    refine V.iload d_Sh_walk_13 5 rfl ?_
    refine V.if_lt (tgt := 42) d_Sh_walk_15 (by decide) (fun hc15 => ?_) (fun hc15 => ?_)
    · replace h := ite_t hc15 h
      refine V.iconst (v := (-1)) d_Sh_walk_42 (by decide) ?_
      cases h
      exact V.iret rfl d_Sh_walk_43 ⟨rfl, rfl⟩
    · replace h := ite_f hc15 h
      refine V.iload d_Sh_walk_18 5 rfl ?_
      refine V.iconst (v := 2) d_Sh_walk_20 (by decide) ?_
      refine V.icmp_gt (tgt := 42) d_Sh_walk_21 (by decide) (fun hc21 => ?_) (fun hc21 => ?_)
      · replace h := ite_t hc21 h
        refine V.iconst (v := (-1)) d_Sh_walk_42 (by decide) ?_
        cases h
        exact V.iret rfl d_Sh_walk_43 ⟨rfl, rfl⟩
      · replace h := ite_f hc21 h
        refine V.aload d_Sh_walk_24 0 rfl ?_
        refine V.iload_n d_Sh_walk_26 rfl 2 rfl ?_
        obtain ⟨r27, h1, h⟩ := bnd1_e h
        refine V.vI (as := [.int a1]) (st := []) (c_Da_isFree Z h1) k_Da_isFree lk_Sh_225 (by decide) rfl (by decide) ly_33 ok_Da.1 rfl (Nat.le_of_ble_eq_true rfl) d_Sh_walk_27 ?_
        refine V.if_eq (tgt := 42) d_Sh_walk_30 (by decide) (fun hc30 => ?_) (fun hc30 => ?_)
        · replace h := ite_t hc30 h
          refine V.iconst (v := (-1)) d_Sh_walk_42 (by decide) ?_
          cases h
          exact V.iret rfl d_Sh_walk_43 ⟨rfl, rfl⟩
        · replace h := ite_f hc30 h
          refine V.aload d_Sh_walk_33 0 rfl ?_
          refine V.iload_n d_Sh_walk_35 rfl 3 rfl ?_
          obtain ⟨r36, h1, h⟩ := bnd1_e h
          refine V.vI (as := [.int a2]) (st := []) (c_Da_isFree Z h1) k_Da_isFree lk_Sh_225 (by decide) rfl (by decide) ly_33 ok_Da.1 rfl (Nat.le_of_ble_eq_true rfl) d_Sh_walk_36 ?_
          refine V.if_ne (tgt := 44) d_Sh_walk_39 (by decide) (fun hc39 => ?_) (fun hc39 => ?_)
          · replace h := ite_f hc39 h
            refine V.iload d_Sh_walk_44 5 rfl ?_
            refine V.if_ne (tgt := 62) d_Sh_walk_46 (by decide) (fun hc46 => ?_) (fun hc46 => ?_)
            · replace h := ite_f hc46 h
              refine V.aload_n d_Sh_walk_62 rfl 1 rfl ?_
              refine V.getR (r := 44) ok_Sh fl_Sh_68 (by decide) (by decide) ly_0 rfl d_Sh_walk_63 ?_
              refine V.aload d_Sh_walk_66 0 rfl ?_
              refine V.iload_n d_Sh_walk_68 rfl 2 rfl ?_
              refine V.iload_n d_Sh_walk_69 rfl 3 rfl ?_
              refine V.iload_n d_Sh_walk_70 rfl 4 rfl ?_
              obtain ⟨r71, σ71, h1, h⟩ := bnd2_e h
              refine V.vI (as := [rf Z 33, .int a1, .int a2, .int a3]) (st := []) (c_Wa_leastSun Z h1) k_Wa_leastSun lk_Sh_248 (by decide) rfl (by decide) ly_44 ok_Wa.1 rfl (Nat.le_of_ble_eq_true rfl) d_Sh_walk_71 ?_
              refine V.istore (lv' := [(6, .int r71), (5, rf Z 33), (0, rf Z 0), (1, .int a1), (2, .int a2), (3, .int a3), (4, .int a4)]) d_Sh_walk_74 (by decide) rfl ?_
              refine V.iload d_Sh_walk_76 0 rfl ?_
              refine V.if_ge (tgt := 84) d_Sh_walk_78 (by decide) (fun hc78 => ?_) (fun hc78 => ?_)
              · replace h := ite_t hc78 h
                refine V.iload d_Sh_walk_84 6 rfl ?_
                refine V.iconst (v := 1) d_Sh_walk_86 (by decide) ?_
                refine V.icmp_ne (tgt := 102) d_Sh_walk_87 (by decide) (fun hc87 => ?_) (fun hc87 => ?_)
                · replace h := ite_f hc87 h
                  refine V.aload_n d_Sh_walk_102 rfl 2 rfl ?_
                  refine V.getR (r := 44) ok_Sh fl_Sh_68 (by decide) (by decide) ly_0 rfl d_Sh_walk_103 ?_
                  refine V.iload d_Sh_walk_106 0 rfl ?_
                  obtain ⟨r108, h1, h⟩ := bnd1_e h
                  refine V.vI (as := [.int r71]) (st := []) (c_Wa_partsOf Z h1) k_Wa_partsOf lk_Sh_254 (by decide) rfl (by decide) ly_44 ok_Wa.1 rfl (Nat.le_of_ble_eq_true rfl) d_Sh_walk_108 ?_
                  cases h
                  exact V.iret rfl d_Sh_walk_111 ⟨rfl, rfl⟩
                · replace h := ite_t hc87 h
                  refine V.aload_n d_Sh_walk_90 rfl 2 rfl ?_
                  refine V.getR (r := 44) ok_Sh fl_Sh_68 (by decide) (by decide) ly_0 rfl d_Sh_walk_91 ?_
                  refine V.iload d_Sh_walk_94 0 rfl ?_
                  obtain ⟨r96, h1, h⟩ := bnd1_e h
                  refine V.vI (as := [.int r71]) (st := []) (c_Wa_sunOf Z h1) k_Wa_sunOf lk_Sh_251 (by decide) rfl (by decide) ly_44 ok_Wa.1 rfl (Nat.le_of_ble_eq_true rfl) d_Sh_walk_96 ?_
                  refine V.goto (tgt := 111) d_Sh_walk_99 (by decide) ?_
                  cases h
                  exact V.iret rfl d_Sh_walk_111 ⟨rfl, rfl⟩
              · replace h := ite_f hc78 h
                refine V.bipush (v := (-2)) d_Sh_walk_81 (by decide) ?_
                cases h
                exact V.iret rfl d_Sh_walk_83 ⟨rfl, rfl⟩
            · replace h := ite_t hc46 h
              refine V.aload_n d_Sh_walk_49 rfl 1 rfl ?_
              refine V.getR (r := 44) ok_Sh fl_Sh_68 (by decide) (by decide) ly_0 rfl d_Sh_walk_50 ?_
              refine V.aload d_Sh_walk_53 0 rfl ?_
              refine V.iload_n d_Sh_walk_55 rfl 2 rfl ?_
              refine V.iload_n d_Sh_walk_56 rfl 3 rfl ?_
              refine V.iload_n d_Sh_walk_57 rfl 4 rfl ?_
              obtain ⟨r58, σ58, h1, h⟩ := bnd2_e h
              refine V.vI (as := [rf Z 33, .int a1, .int a2, .int a3]) (st := []) (c_Wa_soonestInShade Z h1) k_Wa_soonestInShade lk_Sh_244 (by decide) rfl (by decide) ly_44 ok_Wa.1 rfl (Nat.le_of_ble_eq_true rfl) d_Sh_walk_58 ?_
              cases h
              exact V.iret rfl d_Sh_walk_61 ⟨rfl, rfl⟩
          · replace h := ite_t hc39 h
            refine V.iconst (v := (-1)) d_Sh_walk_42 (by decide) ?_
            cases h
            exact V.iret rfl d_Sh_walk_43 ⟨rfl, rfl⟩
abbrev m_Ma_isNumber : MI := (⟨"ShadeTown$Market", "isNumber", "(I)Z"⟩, prog_6_method_2_code, 2, (Option.some Jvm.ClassFile.FieldType.boolean))
theorem d_Ma_isNumber_0 : decode prog_6_method_2_code 0 = .ok (.iload_n 1, 1) := by decide +kernel
theorem d_Ma_isNumber_14 : decode prog_6_method_2_code 14 = .ok (.iconst 0, 1) := by decide +kernel
theorem d_Ma_isNumber_15 : decode prog_6_method_2_code 15 = .ok (.ireturn, 1) := by decide +kernel
theorem d_Ma_isNumber_4 : decode prog_6_method_2_code 4 = .ok (.iload_n 1, 1) := by decide +kernel
theorem d_Ma_isNumber_5 : decode prog_6_method_2_code 5 = .ok (.bipush 8, 2) := by decide +kernel
theorem d_Ma_isNumber_10 : decode prog_6_method_2_code 10 = .ok (.iconst 1, 1) := by decide +kernel
theorem d_Ma_isNumber_11 : decode prog_6_method_2_code 11 = .ok (.goto 4, 3) := by decide +kernel
theorem d_Ma_isNumber_7 : decode prog_6_method_2_code 7 = .ok (.if_icmp .ge 7, 3) := by decide +kernel
theorem d_Ma_isNumber_1 : decode prog_6_method_2_code 1 = .ok (.ifCond .lt 13, 3) := by decide +kernel
def f_Ma_isNumber (a1 : Int32) : Option (Int32) :=
  if a1 < 0 then
    (some 0)
  else
    (if 8 ≤ a1 then
      (some 0)
    else
      (some 1))
set_option maxHeartbeats 4000000 in
set_option maxRecDepth 20000 in
theorem c_Ma_isNumber (Z : ZX) {σ : Mem} {a1 : Int32} {r : Int32} (h : f_Ma_isNumber a1 = some r) : CI Z 0 m_Ma_isNumber [rf Z 47, .int a1] σ r σ := by
  refine Ct.of (by decide +kernel) (Nat.le_of_ble_eq_true rfl) (fun Y => ?_)
  show V (mkB Z) Y m_Ma_isNumber 0 (QP (mkB Z) Y nC 0 0 (fun v t => v = some (.int r) ∧ t = σ)) 0 0 nC σ 0 [(0, rf Z 47), (1, .int a1)] []
  unfold f_Ma_isNumber at h
  refine V.iload_n d_Ma_isNumber_0 rfl 1 rfl ?_
  refine V.if_lt (tgt := 14) d_Ma_isNumber_1 (by decide) (fun hc1 => ?_) (fun hc1 => ?_)
  · replace h := ite_t hc1 h
    refine V.iconst (v := 0) d_Ma_isNumber_14 (by decide) ?_
    cases h
    exact V.zret rfl rfl d_Ma_isNumber_15 ⟨rfl, rfl⟩
  · replace h := ite_f hc1 h
    refine V.iload_n d_Ma_isNumber_4 rfl 1 rfl ?_
    refine V.bipush (v := 8) d_Ma_isNumber_5 (by decide) ?_
    refine V.icmp_ge (tgt := 14) d_Ma_isNumber_7 (by decide) (fun hc7 => ?_) (fun hc7 => ?_)
    · replace h := ite_t hc7 h
      refine V.iconst (v := 0) d_Ma_isNumber_14 (by decide) ?_
      cases h
      exact V.zret rfl rfl d_Ma_isNumber_15 ⟨rfl, rfl⟩
    · replace h := ite_f hc7 h
      refine V.iconst (v := 1) d_Ma_isNumber_10 (by decide) ?_
      refine V.goto (tgt := 15) d_Ma_isNumber_11 (by decide) ?_
      cases h
      exact V.zret rfl rfl d_Ma_isNumber_15 ⟨rfl, rfl⟩
abbrev m_Ma_tell : MI := (⟨"ShadeTown$Market", "tell", "(II)V"⟩, prog_6_method_6_code, 3, (Option.none : Option Jvm.ClassFile.FieldType))
theorem d_Ma_tell_0 : decode prog_6_method_6_code 0 = .ok (.aload_n 0, 1) := by decide +kernel
theorem d_Ma_tell_1 : decode prog_6_method_6_code 1 = .ok (.iload_n 1, 1) := by decide +kernel
theorem d_Ma_tell_2 : decode prog_6_method_6_code 2 = .ok (.invokevirtual 48, 3) := by decide +kernel
theorem k_Ma_isNumber : MOk m_Ma_isNumber 1 ∧ IOk m_Ma_isNumber := ⟨⟨atG 1011 (by decide +kernel) rfl, atG 119 (by decide +kernel) rfl, ⟨by decide, by decide⟩, by decide +kernel, by decide⟩, atG 1009 (by decide +kernel) rfl, atG 1010 (by decide +kernel) rfl⟩
theorem lk_Ma_48 : Cond.methodLink "ShadeTown$Market" 48 ⟨"ShadeTown$Market", "isNumber", "(I)Z"⟩ ∈ tblG := atG 1016 (by decide +kernel) rfl
theorem d_Ma_tell_27 : decode prog_6_method_6_code 27 = .ok (.return_, 1) := by decide +kernel
theorem d_Ma_tell_8 : decode prog_6_method_6_code 8 = .ok (.aload_n 0, 1) := by decide +kernel
theorem fl_Ma_11 : FL "ShadeTown$Market" 11 T_Ma 0 := atG 346 (by decide +kernel) rfl
theorem d_Ma_tell_9 : decode prog_6_method_6_code 9 = .ok (.getfield 11, 3) := by decide +kernel
theorem d_Ma_tell_12 : decode prog_6_method_6_code 12 = .ok (.iload_n 1, 1) := by decide +kernel
theorem d_Ma_tell_13 : decode prog_6_method_6_code 13 = .ok (.iload_n 2, 1) := by decide +kernel
theorem d_Ma_tell_14 : decode prog_6_method_6_code 14 = .ok (.iastore, 1) := by decide +kernel
theorem d_Ma_tell_15 : decode prog_6_method_6_code 15 = .ok (.aload_n 0, 1) := by decide +kernel
theorem d_Ma_tell_16 : decode prog_6_method_6_code 16 = .ok (.dup, 1) := by decide +kernel
theorem fl_Ma_15 : FL "ShadeTown$Market" 15 T_Ma 1 := atG 347 (by decide +kernel) rfl
theorem d_Ma_tell_17 : decode prog_6_method_6_code 17 = .ok (.getfield 15, 3) := by decide +kernel
theorem d_Ma_tell_20 : decode prog_6_method_6_code 20 = .ok (.iconst 1, 1) := by decide +kernel
theorem d_Ma_tell_21 : decode prog_6_method_6_code 21 = .ok (.iload_n 1, 1) := by decide +kernel
theorem d_Ma_tell_22 : decode prog_6_method_6_code 22 = .ok (.ishl, 1) := by decide +kernel
theorem d_Ma_tell_23 : decode prog_6_method_6_code 23 = .ok (.ior, 1) := by decide +kernel
theorem d_Ma_tell_24 : decode prog_6_method_6_code 24 = .ok (.putfield 15, 3) := by decide +kernel
theorem d_Ma_tell_5 : decode prog_6_method_6_code 5 = .ok (.ifCond .eq 22, 3) := by decide +kernel
def f_Ma_tell (σ : Mem) (a1 : Int32) (a2 : Int32) : Option (Mem) :=
  bnd1 (f_Ma_isNumber a1) fun r2 =>
  if r2 = 0 then
    (some σ)
  else
    (grd (inb a1 8) <|
    letv (sI σ 48 (a1.toNatClampNeg) a2) fun σ14 =>
    letv (sI σ14 47 1 ((mI σ14 47 1) ||| (1 <<< (a1 &&& 31)))) fun σ24 =>
    some σ24)
set_option maxHeartbeats 4000000 in
set_option maxRecDepth 20000 in
theorem c_Ma_tell (Z : ZX) {σ : Mem} {a1 : Int32} {a2 : Int32} {σ' : Mem} (h : f_Ma_tell σ a1 a2 = some σ') : CN Z 1 m_Ma_tell [rf Z 47, .int a1, .int a2] σ σ' := by
  refine Ct.of (by decide +kernel) (Nat.le_of_ble_eq_true rfl) (fun Y => ?_)
  show V (mkB Z) Y m_Ma_tell 1 (QP (mkB Z) Y nC 0 0 (fun v t => v = none ∧ t = σ')) 0 0 nC σ 0 [(0, rf Z 47), (1, .int a1), (2, .int a2)] []
  unfold f_Ma_tell at h
  refine V.aload_n d_Ma_tell_0 rfl 0 rfl ?_
  refine V.iload_n d_Ma_tell_1 rfl 1 rfl ?_
  obtain ⟨r2, h1, h⟩ := bnd1_e h
  refine V.vI (as := [.int a1]) (st := []) (c_Ma_isNumber Z h1) k_Ma_isNumber lk_Ma_48 (by decide) rfl (by decide) ly_47 ok_Ma.1 rfl (Nat.le_of_ble_eq_true rfl) d_Ma_tell_2 ?_
  refine V.if_eq (tgt := 27) d_Ma_tell_5 (by decide) (fun hc5 => ?_) (fun hc5 => ?_)
  · replace h := ite_t hc5 h
    cases h
    exact V.vret rfl d_Ma_tell_27 ⟨rfl, rfl⟩
  · replace h := ite_f hc5 h
    refine V.aload_n d_Ma_tell_8 rfl 0 rfl ?_
    refine V.getR (r := 48) ok_Ma fl_Ma_11 (by decide) (by decide) ly_47 rfl d_Ma_tell_9 ?_
    refine V.iload_n d_Ma_tell_12 rfl 1 rfl ?_
    refine V.iload_n d_Ma_tell_13 rfl 2 rfl ?_
    obtain ⟨gq, h⟩ := grd_e h
    obtain ⟨σ14, e_σ14, h⟩ := letv_e h
    refine V.wa (by decide) ly_48 (inb_e gq) rfl d_Ma_tell_14 e_σ14 ?_
    refine V.aload_n d_Ma_tell_15 rfl 0 rfl ?_
    refine V.dup d_Ma_tell_16 rfl ?_
    refine V.getI ok_Ma fl_Ma_15 (by decide) (by decide) ly_47 rfl d_Ma_tell_17 ?_
    refine V.iconst (v := 1) d_Ma_tell_20 (by decide) ?_
    refine V.iload_n d_Ma_tell_21 rfl 1 rfl ?_
    refine V.ishl d_Ma_tell_22 ?_
    refine V.ior d_Ma_tell_23 ?_
    obtain ⟨σ24, e_σ24, h⟩ := letv_e h
    refine V.putI ok_Ma fl_Ma_15 (by decide) (by decide) ly_47 rfl rfl rfl rfl d_Ma_tell_24 (V.mem e_σ24 ?_)
    cases h
    exact V.vret rfl d_Ma_tell_27 ⟨rfl, rfl⟩
