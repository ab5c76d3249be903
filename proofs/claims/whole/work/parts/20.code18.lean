abbrev m_Mo_soonest : MI := (⟨"ShadeTownModel", "soonest", "(III)I"⟩, prog_13_method_81_code, 6, (Option.some Jvm.ClassFile.FieldType.int))
theorem d_Mo_soonest_0 : decode prog_13_method_81_code 0 = .ok (.iconst 0, 1) := by decide +kernel
theorem d_Mo_soonest_1 : decode prog_13_method_81_code 1 = .ok (.istore 4, 2) := by decide +kernel
theorem d_Mo_soonest_3 : decode prog_13_method_81_code 3 = .ok (.iload 4, 2) := by decide +kernel
theorem d_Mo_soonest_5 : decode prog_13_method_81_code 5 = .ok (.sipush 144, 3) := by decide +kernel
theorem d_Mo_soonest_11 : decode prog_13_method_81_code 11 = .ok (.aload_n 0, 1) := by decide +kernel
theorem d_Mo_soonest_12 : decode prog_13_method_81_code 12 = .ok (.getfield 84, 3) := by decide +kernel
theorem d_Mo_soonest_15 : decode prog_13_method_81_code 15 = .ok (.iload 4, 2) := by decide +kernel
theorem d_Mo_soonest_17 : decode prog_13_method_81_code 17 = .ok (.iload 4, 2) := by decide +kernel
theorem d_Mo_soonest_19 : decode prog_13_method_81_code 19 = .ok (.iload_n 1, 1) := by decide +kernel
theorem d_Mo_soonest_27 : decode prog_13_method_81_code 27 = .ok (.iconst 0, 1) := by decide +kernel
theorem d_Mo_soonest_23 : decode prog_13_method_81_code 23 = .ok (.iconst 1, 1) := by decide +kernel
theorem d_Mo_soonest_24 : decode prog_13_method_81_code 24 = .ok (.goto 4, 3) := by decide +kernel
theorem d_Mo_soonest_20 : decode prog_13_method_81_code 20 = .ok (.if_icmp .ne 7, 3) := by decide +kernel
theorem d_Mo_soonest_28 : decode prog_13_method_81_code 28 = .ok (.bastore, 1) := by decide +kernel
theorem d_Mo_soonest_29 : decode prog_13_method_81_code 29 = .ok (.iinc 4 1, 3) := by decide +kernel
theorem d_Mo_soonest_32 : decode prog_13_method_81_code 32 = .ok (.goto (-29), 3) := by decide +kernel
theorem d_Mo_soonest_8 : decode prog_13_method_81_code 8 = .ok (.if_icmp .ge 27, 3) := by decide +kernel
theorem d_Mo_soonest_35 : decode prog_13_method_81_code 35 = .ok (.iconst 0, 1) := by decide +kernel
theorem d_Mo_soonest_36 : decode prog_13_method_81_code 36 = .ok (.istore 4, 2) := by decide +kernel
theorem d_Mo_soonest_38 : decode prog_13_method_81_code 38 = .ok (.iload 4, 2) := by decide +kernel
theorem d_Mo_soonest_40 : decode prog_13_method_81_code 40 = .ok (.bipush 72, 2) := by decide +kernel
theorem d_Mo_soonest_159 : decode prog_13_method_81_code 159 = .ok (.bipush (-2), 2) := by decide +kernel
theorem d_Mo_soonest_161 : decode prog_13_method_81_code 161 = .ok (.ireturn, 1) := by decide +kernel
theorem d_Mo_soonest_45 : decode prog_13_method_81_code 45 = .ok (.aload_n 0, 1) := by decide +kernel
theorem d_Mo_soonest_46 : decode prog_13_method_81_code 46 = .ok (.getfield 84, 3) := by decide +kernel
theorem d_Mo_soonest_49 : decode prog_13_method_81_code 49 = .ok (.iload_n 2, 1) := by decide +kernel
theorem d_Mo_soonest_50 : decode prog_13_method_81_code 50 = .ok (.baload, 1) := by decide +kernel
theorem d_Mo_soonest_57 : decode prog_13_method_81_code 57 = .ok (.iconst 0, 1) := by decide +kernel
theorem d_Mo_soonest_58 : decode prog_13_method_81_code 58 = .ok (.istore 5, 2) := by decide +kernel
theorem d_Mo_soonest_60 : decode prog_13_method_81_code 60 = .ok (.iload 5, 2) := by decide +kernel
theorem d_Mo_soonest_62 : decode prog_13_method_81_code 62 = .ok (.sipush 144, 3) := by decide +kernel
theorem d_Mo_soonest_68 : decode prog_13_method_81_code 68 = .ok (.aload_n 0, 1) := by decide +kernel
theorem fl_Mo_87 : FL "ShadeTownModel" 87 T_Mo 42 := atG 1374 (by decide +kernel) rfl
theorem d_Mo_soonest_69 : decode prog_13_method_81_code 69 = .ok (.getfield 87, 3) := by decide +kernel
theorem d_Mo_soonest_72 : decode prog_13_method_81_code 72 = .ok (.iload 5, 2) := by decide +kernel
theorem d_Mo_soonest_74 : decode prog_13_method_81_code 74 = .ok (.aload_n 0, 1) := by decide +kernel
theorem d_Mo_soonest_75 : decode prog_13_method_81_code 75 = .ok (.getfield 78, 3) := by decide +kernel
theorem d_Mo_soonest_78 : decode prog_13_method_81_code 78 = .ok (.iload 5, 2) := by decide +kernel
theorem d_Mo_soonest_80 : decode prog_13_method_81_code 80 = .ok (.baload, 1) := by decide +kernel
theorem d_Mo_soonest_84 : decode prog_13_method_81_code 84 = .ok (.aload_n 0, 1) := by decide +kernel
theorem d_Mo_soonest_85 : decode prog_13_method_81_code 85 = .ok (.iload_n 3, 1) := by decide +kernel
theorem d_Mo_soonest_86 : decode prog_13_method_81_code 86 = .ok (.iload 4, 2) := by decide +kernel
theorem d_Mo_soonest_88 : decode prog_13_method_81_code 88 = .ok (.iconst 1, 1) := by decide +kernel
theorem d_Mo_soonest_89 : decode prog_13_method_81_code 89 = .ok (.iadd, 1) := by decide +kernel
theorem d_Mo_soonest_90 : decode prog_13_method_81_code 90 = .ok (.invokestatic 419, 3) := by decide +kernel
theorem d_Mo_soonest_93 : decode prog_13_method_81_code 93 = .ok (.iload 5, 2) := by decide +kernel
theorem d_Mo_soonest_95 : decode prog_13_method_81_code 95 = .ok (.invokevirtual 422, 3) := by decide +kernel
theorem d_Mo_soonest_101 : decode prog_13_method_81_code 101 = .ok (.aload_n 0, 1) := by decide +kernel
theorem d_Mo_soonest_102 : decode prog_13_method_81_code 102 = .ok (.iload 5, 2) := by decide +kernel
theorem d_Mo_soonest_104 : decode prog_13_method_81_code 104 = .ok (.invokevirtual 425, 3) := by decide +kernel
theorem k_Mo_canCome : MOk m_Mo_canCome 1 ∧ IOk m_Mo_canCome := ⟨⟨atG 1884 (by decide +kernel) rfl, atG 122 (by decide +kernel) rfl, ⟨by decide, by decide⟩, by decide +kernel, by decide⟩, atG 1883 (by decide +kernel) rfl, atG 88 (by decide +kernel) rfl⟩
theorem lk_Mo_425 : Cond.methodLink "ShadeTownModel" 425 ⟨"ShadeTownModel", "canCome", "(I)Z"⟩ ∈ tblG := atG 1881 (by decide +kernel) rfl
theorem d_Mo_soonest_107 : decode prog_13_method_81_code 107 = .ok (.ifCond .eq 7, 3) := by decide +kernel
theorem d_Mo_soonest_98 : decode prog_13_method_81_code 98 = .ok (.ifCond .eq 16, 3) := by decide +kernel
theorem d_Mo_soonest_81 : decode prog_13_method_81_code 81 = .ok (.ifCond .eq 33, 3) := by decide +kernel
theorem d_Mo_soonest_114 : decode prog_13_method_81_code 114 = .ok (.iconst 0, 1) := by decide +kernel
theorem d_Mo_soonest_110 : decode prog_13_method_81_code 110 = .ok (.iconst 1, 1) := by decide +kernel
theorem d_Mo_soonest_111 : decode prog_13_method_81_code 111 = .ok (.goto 4, 3) := by decide +kernel
theorem d_Mo_soonest_115 : decode prog_13_method_81_code 115 = .ok (.bastore, 1) := by decide +kernel
theorem d_Mo_soonest_116 : decode prog_13_method_81_code 116 = .ok (.iinc 5 1, 3) := by decide +kernel
theorem d_Mo_soonest_119 : decode prog_13_method_81_code 119 = .ok (.goto (-59), 3) := by decide +kernel
theorem d_Mo_soonest_65 : decode prog_13_method_81_code 65 = .ok (.if_icmp .ge 57, 3) := by decide +kernel
theorem d_Mo_soonest_122 : decode prog_13_method_81_code 122 = .ok (.iconst 0, 1) := by decide +kernel
theorem d_Mo_soonest_123 : decode prog_13_method_81_code 123 = .ok (.istore 5, 2) := by decide +kernel
theorem d_Mo_soonest_125 : decode prog_13_method_81_code 125 = .ok (.iload 5, 2) := by decide +kernel
theorem d_Mo_soonest_127 : decode prog_13_method_81_code 127 = .ok (.sipush 144, 3) := by decide +kernel
theorem d_Mo_soonest_133 : decode prog_13_method_81_code 133 = .ok (.aload_n 0, 1) := by decide +kernel
theorem d_Mo_soonest_134 : decode prog_13_method_81_code 134 = .ok (.getfield 84, 3) := by decide +kernel
theorem d_Mo_soonest_137 : decode prog_13_method_81_code 137 = .ok (.iload 5, 2) := by decide +kernel
theorem d_Mo_soonest_139 : decode prog_13_method_81_code 139 = .ok (.aload_n 0, 1) := by decide +kernel
theorem d_Mo_soonest_140 : decode prog_13_method_81_code 140 = .ok (.getfield 87, 3) := by decide +kernel
theorem d_Mo_soonest_143 : decode prog_13_method_81_code 143 = .ok (.iload 5, 2) := by decide +kernel
theorem d_Mo_soonest_145 : decode prog_13_method_81_code 145 = .ok (.baload, 1) := by decide +kernel
theorem d_Mo_soonest_146 : decode prog_13_method_81_code 146 = .ok (.bastore, 1) := by decide +kernel
theorem d_Mo_soonest_147 : decode prog_13_method_81_code 147 = .ok (.iinc 5 1, 3) := by decide +kernel
theorem d_Mo_soonest_150 : decode prog_13_method_81_code 150 = .ok (.goto (-25), 3) := by decide +kernel
theorem d_Mo_soonest_130 : decode prog_13_method_81_code 130 = .ok (.if_icmp .ge 23, 3) := by decide +kernel
theorem d_Mo_soonest_153 : decode prog_13_method_81_code 153 = .ok (.iinc 4 1, 3) := by decide +kernel
theorem d_Mo_soonest_156 : decode prog_13_method_81_code 156 = .ok (.goto (-118), 3) := by decide +kernel
theorem d_Mo_soonest_54 : decode prog_13_method_81_code 54 = .ok (.iload 4, 2) := by decide +kernel
theorem d_Mo_soonest_56 : decode prog_13_method_81_code 56 = .ok (.ireturn, 1) := by decide +kernel
theorem d_Mo_soonest_51 : decode prog_13_method_81_code 51 = .ok (.ifCond .eq 6, 3) := by decide +kernel
theorem d_Mo_soonest_42 : decode prog_13_method_81_code 42 = .ok (.if_icmp .gt 117, 3) := by decide +kernel
def B_Mo_soonest_l3 (N : Nat) (a1 : Int32) (a2 : Int32) (a3 : Int32) (rec : Int32 → Mem → Option (Mem)) (x4 : Int32) (σ : Mem) : Option (Mem) :=
  if 144 ≤ x4 then
    (some σ)
  else
    (bnd1 ((
      if x4 = a1 then
        (some 1)
      else
        (some 0)) : Option (Int32)) fun y20_s2 =>
    grd (inb x4 144) <|
    letv (sI σ 90 (x4.toNatClampNeg) (y20_s2 &&& 1)) fun σ28 =>
    letv (x4 + 1) fun v29 =>
    rec v29 σ28)
def L_Mo_soonest_l3 (N : Nat) (a1 : Int32) (a2 : Int32) (a3 : Int32) : Nat → Int32 → Mem → Option (Mem)
  | 0, _, _ => none
  | k + 1, x4, σ => B_Mo_soonest_l3 N a1 a2 a3 (L_Mo_soonest_l3 N a1 a2 a3 k) x4 σ
set_option maxHeartbeats 4000000 in
set_option maxRecDepth 20000 in
theorem cL_Mo_soonest_l3 (Z : ZX) {Y : YX} {Q : State → Prop} {N : Nat} {a1 : Int32} {a2 : Int32} {a3 : Int32} {Good : Mem → Prop} (hE : ∀ (σe : Mem), Good σe → V (mkB Z) Y m_Mo_soonest 3 Q 0 0 nC σe 35 [(0, rf Z 65), (2, .int a2), (3, .int a3)] []) : ∀ (k : Nat) (x4 : Int32) (σ : Mem) (res : Mem), L_Mo_soonest_l3 N a1 a2 a3 k x4 σ = some res → Good res → V (mkB Z) Y m_Mo_soonest 3 Q 0 0 nC σ 3 [(0, rf Z 65), (1, .int a1), (2, .int a2), (3, .int a3), (4, .int x4)] [] := by
  intro k
  induction k with
  | zero => intro x4 σ res h; cases h
  | succ k ih =>
    intro x4 σ res h hg
    replace h : B_Mo_soonest_l3 N a1 a2 a3 (L_Mo_soonest_l3 N a1 a2 a3 k) x4 σ = some res := h
    unfold B_Mo_soonest_l3 at h
    refine V.iload d_Mo_soonest_3 4 rfl ?_
    refine V.sipush (v := 144) d_Mo_soonest_5 (by decide) ?_
    refine V.icmp_ge (tgt := 35) d_Mo_soonest_8 (by decide) (fun hc8 => ?_) (fun hc8 => ?_)
    · replace h := ite_t hc8 h
      cases h
      exact V.pick [0, 2, 3] rfl (hE _ hg)
    · replace h := ite_f hc8 h
      refine V.aload_n d_Mo_soonest_11 rfl 0 rfl ?_
      refine V.getR (r := 90) ok_Mo fl_Mo_84 (by decide) (by decide) ly_65 rfl d_Mo_soonest_12 ?_
      refine V.iload d_Mo_soonest_15 4 rfl ?_
      refine V.iload d_Mo_soonest_17 4 rfl ?_
      refine V.iload_n d_Mo_soonest_19 rfl 1 rfl ?_
      obtain ⟨s20, h1, h⟩ := bnd1_e h
      have J20_28 : ∀ (y20_s2 : Int32), s20 = y20_s2 → V (mkB Z) Y m_Mo_soonest 3 Q 0 0 nC σ 28 [(0, rf Z 65), (1, .int a1), (2, .int a2), (3, .int a3), (4, .int x4)] [.int y20_s2, .int x4, rf Z 90] := by
        intro y20_s2 he
        rw [he] at h
        obtain ⟨gq, h⟩ := grd_e h
        obtain ⟨σ28, e_σ28, h⟩ := letv_e h
        refine V.wz (by decide) ly_90 (inb_e gq) rfl d_Mo_soonest_28 e_σ28 ?_
        obtain ⟨v29, e_v29, h⟩ := letv_e h
        refine V.iinc (v := v29) (lv' := [(4, .int v29), (0, rf Z 65), (1, .int a1), (2, .int a2), (3, .int a3)]) d_Mo_soonest_29 4 rfl (by rw [e_v29]; rfl) (by decide) rfl ?_
        refine V.goto (tgt := 3) d_Mo_soonest_32 (by decide) ?_
        exact V.pick [1, 2, 3, 4, 0] rfl (ih _ _ _ h hg)
      replace h := h1
      refine V.icmp_ne (tgt := 27) d_Mo_soonest_20 (by decide) (fun hc20 => ?_) (fun hc20 => ?_)
      · replace h := ite_f hc20 h
        refine V.iconst (v := 0) d_Mo_soonest_27 (by decide) ?_
        exact V.pick [0, 1, 2, 3, 4] rfl (J20_28 _ (Option.some.inj h).symm)
      · replace h := ite_t hc20 h
        refine V.iconst (v := 1) d_Mo_soonest_23 (by decide) ?_
        refine V.goto (tgt := 28) d_Mo_soonest_24 (by decide) ?_
        exact V.pick [0, 1, 2, 3, 4] rfl (J20_28 _ (Option.some.inj h).symm)
def B_Mo_soonest_l60 (N : Nat) (a2 : Int32) (a3 : Int32) (a4 : Int32) (rec : Int32 → Mem → Option (Mem)) (x5 : Int32) (σ : Mem) : Option (Mem) :=
  if 144 ≤ x5 then
    (some σ)
  else
    (grd (inb x5 144) <|
    bnd1 ((
      bnd1 ((
        if (mI σ 88 (x5.toNatClampNeg)) = 0 then
          (some 0)
        else
          (bnd1 (f_Mo_hourOf a3 (a4 + 1)) fun r90 =>
          bnd1 (f_Mo_isDark σ r90 x5) fun r95 =>
          if r95 = 0 then
            (some 0)
          else
            (bnd1 (f_Mo_canCome N σ x5) fun r104 =>
            if r104 = 0 then
              (some 0)
            else
              (some 1)))) : Option (Nat)) fun t81b =>
      if t81b = 0 then
        (some 0)
      else
      (some 1)) : Option (Int32)) fun y81_s2 =>
    grd (inb x5 144) <|
    letv (sI σ 91 (x5.toNatClampNeg) (y81_s2 &&& 1)) fun σ115 =>
    letv (x5 + 1) fun v116 =>
    rec v116 σ115)
def L_Mo_soonest_l60 (N : Nat) (a2 : Int32) (a3 : Int32) (a4 : Int32) : Nat → Int32 → Mem → Option (Mem)
  | 0, _, _ => none
  | k + 1, x5, σ => B_Mo_soonest_l60 N a2 a3 a4 (L_Mo_soonest_l60 N a2 a3 a4 k) x5 σ
set_option maxHeartbeats 4000000 in
set_option maxRecDepth 20000 in
theorem cL_Mo_soonest_l60 (Z : ZX) {Y : YX} {Q : State → Prop} {N : Nat} {a2 : Int32} {a3 : Int32} {a4 : Int32} {Good : Mem → Prop} (hE : ∀ (σe : Mem), Good σe → V (mkB Z) Y m_Mo_soonest 3 Q 0 0 nC σe 122 [(0, rf Z 65), (2, .int a2), (3, .int a3), (4, .int a4)] []) : ∀ (k : Nat) (x5 : Int32) (σ : Mem) (res : Mem), L_Mo_soonest_l60 N a2 a3 a4 k x5 σ = some res → Good res → V (mkB Z) Y m_Mo_soonest 3 Q 0 0 nC σ 60 [(0, rf Z 65), (2, .int a2), (3, .int a3), (4, .int a4), (5, .int x5)] [] := by
  intro k
  induction k with
  | zero => intro x5 σ res h; cases h
  | succ k ih =>
    intro x5 σ res h hg
    replace h : B_Mo_soonest_l60 N a2 a3 a4 (L_Mo_soonest_l60 N a2 a3 a4 k) x5 σ = some res := h
    unfold B_Mo_soonest_l60 at h
    refine V.iload d_Mo_soonest_60 4 rfl ?_
    refine V.sipush (v := 144) d_Mo_soonest_62 (by decide) ?_
    refine V.icmp_ge (tgt := 122) d_Mo_soonest_65 (by decide) (fun hc65 => ?_) (fun hc65 => ?_)
    · replace h := ite_t hc65 h
      cases h
      exact V.pick [0, 1, 2, 3] rfl (hE _ hg)
    · replace h := ite_f hc65 h
      refine V.aload_n d_Mo_soonest_68 rfl 0 rfl ?_
      refine V.getR (r := 91) ok_Mo fl_Mo_87 (by decide) (by decide) ly_65 rfl d_Mo_soonest_69 ?_
      refine V.iload d_Mo_soonest_72 4 rfl ?_
      refine V.aload_n d_Mo_soonest_74 rfl 0 rfl ?_
      refine V.getR (r := 88) ok_Mo fl_Mo_78 (by decide) (by decide) ly_65 rfl d_Mo_soonest_75 ?_
      refine V.iload d_Mo_soonest_78 4 rfl ?_
      obtain ⟨gq, h⟩ := grd_e h
      refine V.rz (by decide) ly_88 (inb_e gq) rfl d_Mo_soonest_80 ?_
      obtain ⟨s81, h1, h⟩ := bnd1_e h
      have J81_115 : ∀ (y81_s2 : Int32), s81 = y81_s2 → V (mkB Z) Y m_Mo_soonest 3 Q 0 0 nC σ 115 [(0, rf Z 65), (2, .int a2), (3, .int a3), (4, .int a4), (5, .int x5)] [.int y81_s2, .int x5, rf Z 91] := by
        intro y81_s2 he
        rw [he] at h
        obtain ⟨gq, h⟩ := grd_e h
        obtain ⟨σ115, e_σ115, h⟩ := letv_e h
        refine V.wz (by decide) ly_91 (inb_e gq) rfl d_Mo_soonest_115 e_σ115 ?_
        obtain ⟨v116, e_v116, h⟩ := letv_e h
        refine V.iinc (v := v116) (lv' := [(5, .int v116), (0, rf Z 65), (2, .int a2), (3, .int a3), (4, .int a4)]) d_Mo_soonest_116 4 rfl (by rw [e_v116]; rfl) (by decide) rfl ?_
        refine V.goto (tgt := 60) d_Mo_soonest_119 (by decide) ?_
        exact V.pick [1, 2, 3, 4, 0] rfl (ih _ _ _ h hg)
      replace h := h1
      obtain ⟨s81b, h1, h⟩ := bnd1_e h
      have J81b_114 : s81b = 0 → V (mkB Z) Y m_Mo_soonest 3 Q 0 0 nC σ 114 [(0, rf Z 65), (2, .int a2), (3, .int a3), (4, .int a4), (5, .int x5)] [.int x5, rf Z 91] := by
        intro he
        rw [he] at h
        replace h := ite_t rfl h
        refine V.iconst (v := 0) d_Mo_soonest_114 (by decide) ?_
        exact V.pick [0, 1, 2, 3, 4] rfl (J81_115 _ (Option.some.inj h).symm)
      have J81b_110 : s81b = 1 → V (mkB Z) Y m_Mo_soonest 3 Q 0 0 nC σ 110 [(0, rf Z 65), (2, .int a2), (3, .int a3), (4, .int a4), (5, .int x5)] [.int x5, rf Z 91] := by
        intro he
        rw [he] at h
        replace h := ite_f (by decide) h
        refine V.iconst (v := 1) d_Mo_soonest_110 (by decide) ?_
        refine V.goto (tgt := 115) d_Mo_soonest_111 (by decide) ?_
        exact V.pick [0, 1, 2, 3, 4] rfl (J81_115 _ (Option.some.inj h).symm)
      replace h := h1
      refine V.if_eq (tgt := 114) d_Mo_soonest_81 (by decide) (fun hc81 => ?_) (fun hc81 => ?_)
      · replace h := ite_t hc81 h
        exact V.pick [0, 1, 2, 3, 4] rfl (J81b_114 (Option.some.inj h).symm)
      · replace h := ite_f hc81 h
        refine V.aload_n d_Mo_soonest_84 rfl 0 rfl ?_
        refine V.iload_n d_Mo_soonest_85 rfl 2 rfl ?_
        refine V.iload d_Mo_soonest_86 3 rfl ?_
        refine V.iconst (v := 1) d_Mo_soonest_88 (by decide) ?_
        refine V.iadd d_Mo_soonest_89 ?_
        obtain ⟨r90, h1, h⟩ := bnd1_e h
        refine V.sI (as := [.int a3, .int (a4 + 1)]) (st := [rf Z 65, .int x5, rf Z 91]) (c_Mo_hourOf Z h1) k_Mo_hourOf lk_Mo_419 (by decide) rfl rfl (Nat.le_of_ble_eq_true rfl) d_Mo_soonest_90 ?_
        refine V.iload d_Mo_soonest_93 4 rfl ?_
        obtain ⟨r95, h1, h⟩ := bnd1_e h
        refine V.vI (as := [.int r90, .int x5]) (st := [.int x5, rf Z 91]) (c_Mo_isDark Z h1) k_Mo_isDark lk_Mo_422 (by decide) rfl (by decide) ly_65 ok_Mo.1 rfl (Nat.le_of_ble_eq_true rfl) d_Mo_soonest_95 ?_
        refine V.if_eq (tgt := 114) d_Mo_soonest_98 (by decide) (fun hc98 => ?_) (fun hc98 => ?_)
        · replace h := ite_t hc98 h
          exact V.pick [0, 1, 2, 3, 4] rfl (J81b_114 (Option.some.inj h).symm)
        · replace h := ite_f hc98 h
          refine V.aload_n d_Mo_soonest_101 rfl 0 rfl ?_
          refine V.iload d_Mo_soonest_102 4 rfl ?_
          obtain ⟨r104, h1, h⟩ := bnd1_e h
          refine V.vI (as := [.int x5]) (st := [.int x5, rf Z 91]) (c_Mo_canCome Z h1) k_Mo_canCome lk_Mo_425 (by decide) rfl (by decide) ly_65 ok_Mo.1 rfl (Nat.le_of_ble_eq_true rfl) d_Mo_soonest_104 ?_
          refine V.if_eq (tgt := 114) d_Mo_soonest_107 (by decide) (fun hc107 => ?_) (fun hc107 => ?_)
          · replace h := ite_t hc107 h
            exact V.pick [0, 1, 2, 3, 4] rfl (J81b_114 (Option.some.inj h).symm)
          · replace h := ite_f hc107 h
            exact V.pick [0, 1, 2, 3, 4] rfl (J81b_110 (Option.some.inj h).symm)
def B_Mo_soonest_l125 (N : Nat) (a2 : Int32) (a3 : Int32) (a4 : Int32) (rec : Int32 → Mem → Option (Mem)) (x5 : Int32) (σ : Mem) : Option (Mem) :=
  if 144 ≤ x5 then
    (some σ)
  else
    (grd (inb x5 144) <|
    grd (inb x5 144) <|
    letv (sI σ 90 (x5.toNatClampNeg) ((mI σ 91 (x5.toNatClampNeg)) &&& 1)) fun σ146 =>
    letv (x5 + 1) fun v147 =>
    rec v147 σ146)
def L_Mo_soonest_l125 (N : Nat) (a2 : Int32) (a3 : Int32) (a4 : Int32) : Nat → Int32 → Mem → Option (Mem)
  | 0, _, _ => none
  | k + 1, x5, σ => B_Mo_soonest_l125 N a2 a3 a4 (L_Mo_soonest_l125 N a2 a3 a4 k) x5 σ
set_option maxHeartbeats 4000000 in
set_option maxRecDepth 20000 in
theorem cL_Mo_soonest_l125 (Z : ZX) {Y : YX} {Q : State → Prop} {N : Nat} {a2 : Int32} {a3 : Int32} {a4 : Int32} {Good : Mem → Prop} (hE : ∀ (σe : Mem), Good σe → V (mkB Z) Y m_Mo_soonest 3 Q 0 0 nC σe 153 [(0, rf Z 65), (2, .int a2), (3, .int a3), (4, .int a4)] []) : ∀ (k : Nat) (x5 : Int32) (σ : Mem) (res : Mem), L_Mo_soonest_l125 N a2 a3 a4 k x5 σ = some res → Good res → V (mkB Z) Y m_Mo_soonest 3 Q 0 0 nC σ 125 [(0, rf Z 65), (2, .int a2), (3, .int a3), (4, .int a4), (5, .int x5)] [] := by
  intro k
  induction k with
  | zero => intro x5 σ res h; cases h
  | succ k ih =>
    intro x5 σ res h hg
    replace h : B_Mo_soonest_l125 N a2 a3 a4 (L_Mo_soonest_l125 N a2 a3 a4 k) x5 σ = some res := h
    unfold B_Mo_soonest_l125 at h
    refine V.iload d_Mo_soonest_125 4 rfl ?_
    refine V.sipush (v := 144) d_Mo_soonest_127 (by decide) ?_
    refine V.icmp_ge (tgt := 153) d_Mo_soonest_130 (by decide) (fun hc130 => ?_) (fun hc130 => ?_)
    · replace h := ite_t hc130 h
      cases h
      exact V.pick [0, 1, 2, 3] rfl (hE _ hg)
    · replace h := ite_f hc130 h
      refine V.aload_n d_Mo_soonest_133 rfl 0 rfl ?_
      refine V.getR (r := 90) ok_Mo fl_Mo_84 (by decide) (by decide) ly_65 rfl d_Mo_soonest_134 ?_
      refine V.iload d_Mo_soonest_137 4 rfl ?_
      refine V.aload_n d_Mo_soonest_139 rfl 0 rfl ?_
      refine V.getR (r := 91) ok_Mo fl_Mo_87 (by decide) (by decide) ly_65 rfl d_Mo_soonest_140 ?_
      refine V.iload d_Mo_soonest_143 4 rfl ?_
      obtain ⟨gq, h⟩ := grd_e h
      refine V.rz (by decide) ly_91 (inb_e gq) rfl d_Mo_soonest_145 ?_
      obtain ⟨gq, h⟩ := grd_e h
      obtain ⟨σ146, e_σ146, h⟩ := letv_e h
      refine V.wz (by decide) ly_90 (inb_e gq) rfl d_Mo_soonest_146 e_σ146 ?_
      obtain ⟨v147, e_v147, h⟩ := letv_e h
      refine V.iinc (v := v147) (lv' := [(5, .int v147), (0, rf Z 65), (2, .int a2), (3, .int a3), (4, .int a4)]) d_Mo_soonest_147 4 rfl (by rw [e_v147]; rfl) (by decide) rfl ?_
      refine V.goto (tgt := 125) d_Mo_soonest_150 (by decide) ?_
      exact V.pick [1, 2, 3, 4, 0] rfl (ih _ _ _ h hg)
def B_Mo_soonest_l38 (N : Nat) (a2 : Int32) (a3 : Int32) (rec : Int32 → Mem → Option (Int32 × Mem)) (x4 : Int32) (σ : Mem) : Option (Int32 × Mem) :=
  if 72 < x4 then
    (some ((-2), σ))
  else
    (grd (inb a2 144) <|
    if (mI σ 90 (a2.toNatClampNeg)) = 0 then
      (bnd1 (L_Mo_soonest_l60 N a2 a3 x4 N 0 σ) fun σ60_ =>
      bnd1 (L_Mo_soonest_l125 N a2 a3 x4 N 0 σ60_) fun σ125_ =>
      letv (x4 + 1) fun v153 =>
      rec v153 σ125_)
    else
      (some (x4, σ)))
def L_Mo_soonest_l38 (N : Nat) (a2 : Int32) (a3 : Int32) : Nat → Int32 → Mem → Option (Int32 × Mem)
  | 0, _, _ => none
  | k + 1, x4, σ => B_Mo_soonest_l38 N a2 a3 (L_Mo_soonest_l38 N a2 a3 k) x4 σ
set_option maxHeartbeats 4000000 in
set_option maxRecDepth 20000 in
theorem cL_Mo_soonest_l38 (Z : ZX) {Y : YX} {post : Option Value → Mem → Prop} {N : Nat} {a2 : Int32} {a3 : Int32} {Good : Int32 × Mem → Prop} (hR : ∀ (v : Int32) (σr : Mem), Good (v, σr) → post (some (.int v)) σr) : ∀ (k : Nat) (x4 : Int32) (σ : Mem) (res : Int32 × Mem), L_Mo_soonest_l38 N a2 a3 k x4 σ = some res → Good res → V (mkB Z) Y m_Mo_soonest 3 (QP (mkB Z) Y nC 0 0 post) 0 0 nC σ 38 [(0, rf Z 65), (2, .int a2), (3, .int a3), (4, .int x4)] [] := by
  intro k
  induction k with
  | zero => intro x4 σ res h; cases h
  | succ k ih =>
    intro x4 σ res h hg
    replace h : B_Mo_soonest_l38 N a2 a3 (L_Mo_soonest_l38 N a2 a3 k) x4 σ = some res := h
    unfold B_Mo_soonest_l38 at h
    refine V.iload d_Mo_soonest_38 3 rfl ?_
    refine V.bipush (v := 72) d_Mo_soonest_40 (by decide) ?_
    refine V.icmp_gt (tgt := 159) d_Mo_soonest_42 (by decide) (fun hc42 => ?_) (fun hc42 => ?_)
    · replace h := ite_t hc42 h
      refine V.bipush (v := (-2)) d_Mo_soonest_159 (by decide) ?_
      cases h
      exact V.iret rfl d_Mo_soonest_161 (hR _ _ hg)
    · replace h := ite_f hc42 h
      refine V.aload_n d_Mo_soonest_45 rfl 0 rfl ?_
      refine V.getR (r := 90) ok_Mo fl_Mo_84 (by decide) (by decide) ly_65 rfl d_Mo_soonest_46 ?_
      refine V.iload_n d_Mo_soonest_49 rfl 1 rfl ?_
      obtain ⟨gq, h⟩ := grd_e h
      refine V.rz (by decide) ly_90 (inb_e gq) rfl d_Mo_soonest_50 ?_
      refine V.if_eq (tgt := 57) d_Mo_soonest_51 (by decide) (fun hc51 => ?_) (fun hc51 => ?_)
      · replace h := ite_t hc51 h
        refine V.iconst (v := 0) d_Mo_soonest_57 (by decide) ?_
        refine V.istore (lv' := [(5, .int 0), (0, rf Z 65), (2, .int a2), (3, .int a3), (4, .int x4)]) d_Mo_soonest_58 (by decide) rfl ?_
        obtain ⟨x60_, h1, h⟩ := bnd1_e h
        refine V.pick [1, 2, 3, 4, 0] rfl (cL_Mo_soonest_l60 Z (Good := fun z => x60_ = z) (fun σ60_ he => ?_) N _ _ _ h1 rfl)
        · rw [he] at h
          refine V.iconst (v := 0) d_Mo_soonest_122 (by decide) ?_
          refine V.istore (lv' := [(5, .int 0), (0, rf Z 65), (2, .int a2), (3, .int a3), (4, .int x4)]) d_Mo_soonest_123 (by decide) rfl ?_
          obtain ⟨x125_, h1, h⟩ := bnd1_e h
          refine V.pick [1, 2, 3, 4, 0] rfl (cL_Mo_soonest_l125 Z (Good := fun z => x125_ = z) (fun σ125_ he => ?_) N _ _ _ h1 rfl)
          · rw [he] at h
            obtain ⟨v153, e_v153, h⟩ := letv_e h
            refine V.iinc (v := v153) (lv' := [(4, .int v153), (0, rf Z 65), (2, .int a2), (3, .int a3)]) d_Mo_soonest_153 3 rfl (by rw [e_v153]; rfl) (by decide) rfl ?_
            refine V.goto (tgt := 38) d_Mo_soonest_156 (by decide) ?_
            exact V.pick [1, 2, 3, 0] rfl (ih _ _ _ h hg)
      · replace h := ite_f hc51 h
        refine V.iload d_Mo_soonest_54 3 rfl ?_
        cases h
        exact V.iret rfl d_Mo_soonest_56 (hR _ _ hg)
def f_Mo_soonest (N : Nat) (σ : Mem) (a1 : Int32) (a2 : Int32) (a3 : Int32) : Option (Int32 × Mem) :=
  bnd1 (L_Mo_soonest_l3 N a1 a2 a3 N 0 σ) fun σ3_ =>
  L_Mo_soonest_l38 N a2 a3 N 0 σ3_
set_option maxHeartbeats 4000000 in
set_option maxRecDepth 20000 in
theorem c_Mo_soonest (Z : ZX) {N : Nat} {σ : Mem} {a1 : Int32} {a2 : Int32} {a3 : Int32} {r : Int32} {σ' : Mem} (h : f_Mo_soonest N σ a1 a2 a3 = some (r, σ')) : CI Z 3 m_Mo_soonest [rf Z 65, .int a1, .int a2, .int a3] σ r σ' := by
  refine Ct.of (by decide +kernel) (Nat.le_of_ble_eq_true rfl) (fun Y => ?_)
  show V (mkB Z) Y m_Mo_soonest 3 (QP (mkB Z) Y nC 0 0 (fun v t => v = some (.int r) ∧ t = σ')) 0 0 nC σ 0 [(0, rf Z 65), (1, .int a1), (2, .int a2), (3, .int a3)] []
  unfold f_Mo_soonest at h
  refine V.iconst (v := 0) d_Mo_soonest_0 (by decide) ?_
  refine V.istore (lv' := [(4, .int 0), (0, rf Z 65), (1, .int a1), (2, .int a2), (3, .int a3)]) d_Mo_soonest_1 (by decide) rfl ?_
  obtain ⟨x3_, h1, h⟩ := bnd1_e h
  refine V.pick [1, 2, 3, 4, 0] rfl (cL_Mo_soonest_l3 Z (Good := fun z => x3_ = z) (fun σ3_ he => ?_) N _ _ _ h1 rfl)
  · rw [he] at h
    refine V.iconst (v := 0) d_Mo_soonest_35 (by decide) ?_
    refine V.istore (lv' := [(4, .int 0), (0, rf Z 65), (2, .int a2), (3, .int a3)]) d_Mo_soonest_36 (by decide) rfl ?_
    refine V.pick [1, 2, 3, 0] rfl (cL_Mo_soonest_l38 Z (Good := fun z => z = _) (fun r38v r38m he => ?_) N _ _ _ h rfl)
    · cases he
      exact ⟨rfl, rfl⟩
abbrev m_Mo_walk : MI := (⟨"ShadeTownModel", "walk", "(IIII)I"⟩, prog_13_method_85_code, 5, (Option.some Jvm.ClassFile.FieldType.int))
theorem d_Mo_walk_0 : decode prog_13_method_85_code 0 = .ok (.iload_n 1, 1) := by decide +kernel
theorem d_Mo_walk_1 : decode prog_13_method_85_code 1 = .ok (.iconst 0, 1) := by decide +kernel
theorem d_Mo_walk_2 : decode prog_13_method_85_code 2 = .ok (.sipush 143, 3) := by decide +kernel
theorem d_Mo_walk_5 : decode prog_13_method_85_code 5 = .ok (.invokestatic 188, 3) := by decide +kernel
theorem d_Mo_walk_55 : decode prog_13_method_85_code 55 = .ok (.iconst (-1), 1) := by decide +kernel
theorem d_Mo_walk_56 : decode prog_13_method_85_code 56 = .ok (.ireturn, 1) := by decide +kernel
theorem d_Mo_walk_11 : decode prog_13_method_85_code 11 = .ok (.iload_n 2, 1) := by decide +kernel
theorem d_Mo_walk_12 : decode prog_13_method_85_code 12 = .ok (.iconst 0, 1) := by decide +kernel
theorem d_Mo_walk_13 : decode prog_13_method_85_code 13 = .ok (.sipush 143, 3) := by decide +kernel
theorem d_Mo_walk_16 : decode prog_13_method_85_code 16 = .ok (.invokestatic 188, 3) := by decide +kernel
theorem d_Mo_walk_22 : decode prog_13_method_85_code 22 = .ok (.iload_n 3, 1) := by decide +kernel
theorem d_Mo_walk_23 : decode prog_13_method_85_code 23 = .ok (.invokestatic 321, 3) := by decide +kernel
theorem d_Mo_walk_29 : decode prog_13_method_85_code 29 = .ok (.iload 4, 2) := by decide +kernel
theorem d_Mo_walk_31 : decode prog_13_method_85_code 31 = .ok (.iconst 0, 1) := by decide +kernel
theorem d_Mo_walk_32 : decode prog_13_method_85_code 32 = .ok (.iconst 2, 1) := by decide +kernel
theorem d_Mo_walk_33 : decode prog_13_method_85_code 33 = .ok (.invokestatic 188, 3) := by decide +kernel
theorem d_Mo_walk_39 : decode prog_13_method_85_code 39 = .ok (.aload_n 0, 1) := by decide +kernel
theorem d_Mo_walk_40 : decode prog_13_method_85_code 40 = .ok (.iload_n 1, 1) := by decide +kernel
theorem d_Mo_walk_41 : decode prog_13_method_85_code 41 = .ok (.invokevirtual 192, 3) := by decide +kernel
theorem d_Mo_walk_47 : decode prog_13_method_85_code 47 = .ok (.aload_n 0, 1) := by decide +kernel
theorem d_Mo_walk_48 : decode prog_13_method_85_code 48 = .ok (.iload_n 2, 1) := by decide +kernel
theorem d_Mo_walk_49 : decode prog_13_method_85_code 49 = .ok (.invokevirtual 192, 3) := by decide +kernel
theorem d_Mo_walk_57 : decode prog_13_method_85_code 57 = .ok (.aload_n 0, 1) := by decide +kernel
theorem d_Mo_walk_58 : decode prog_13_method_85_code 58 = .ok (.invokevirtual 370, 3) := by decide +kernel
theorem d_Mo_walk_61 : decode prog_13_method_85_code 61 = .ok (.iload 4, 2) := by decide +kernel
theorem d_Mo_walk_74 : decode prog_13_method_85_code 74 = .ok (.aload_n 0, 1) := by decide +kernel
theorem d_Mo_walk_75 : decode prog_13_method_85_code 75 = .ok (.iload_n 1, 1) := by decide +kernel
theorem d_Mo_walk_76 : decode prog_13_method_85_code 76 = .ok (.iload_n 2, 1) := by decide +kernel
theorem d_Mo_walk_77 : decode prog_13_method_85_code 77 = .ok (.iload_n 3, 1) := by decide +kernel
theorem d_Mo_walk_78 : decode prog_13_method_85_code 78 = .ok (.invokevirtual 440, 3) := by decide +kernel
theorem k_Mo_laysLeastSun : MOk m_Mo_laysLeastSun 3 ∧ IOk m_Mo_laysLeastSun := ⟨⟨atG 1888 (by decide +kernel) rfl, atG 122 (by decide +kernel) rfl, ⟨by decide, by decide⟩, by decide +kernel, by decide⟩, atG 1887 (by decide +kernel) rfl, atG 89 (by decide +kernel) rfl⟩
theorem lk_Mo_440 : Cond.methodLink "ShadeTownModel" 440 ⟨"ShadeTownModel", "laysLeastSun", "(III)V"⟩ ∈ tblG := atG 1885 (by decide +kernel) rfl
theorem d_Mo_walk_81 : decode prog_13_method_85_code 81 = .ok (.aload_n 0, 1) := by decide +kernel
theorem d_Mo_walk_82 : decode prog_13_method_85_code 82 = .ok (.getfield 431, 3) := by decide +kernel
theorem d_Mo_walk_85 : decode prog_13_method_85_code 85 = .ok (.bipush (-2), 2) := by decide +kernel
theorem d_Mo_walk_95 : decode prog_13_method_85_code 95 = .ok (.iload 4, 2) := by decide +kernel
theorem d_Mo_walk_97 : decode prog_13_method_85_code 97 = .ok (.iconst 1, 1) := by decide +kernel
theorem d_Mo_walk_108 : decode prog_13_method_85_code 108 = .ok (.aload_n 0, 1) := by decide +kernel
theorem d_Mo_walk_109 : decode prog_13_method_85_code 109 = .ok (.getfield 431, 3) := by decide +kernel
theorem d_Mo_walk_112 : decode prog_13_method_85_code 112 = .ok (.ireturn, 1) := by decide +kernel
theorem d_Mo_walk_101 : decode prog_13_method_85_code 101 = .ok (.aload_n 0, 1) := by decide +kernel
theorem d_Mo_walk_102 : decode prog_13_method_85_code 102 = .ok (.getfield 428, 3) := by decide +kernel
theorem d_Mo_walk_105 : decode prog_13_method_85_code 105 = .ok (.goto 7, 3) := by decide +kernel
theorem d_Mo_walk_98 : decode prog_13_method_85_code 98 = .ok (.if_icmp .ne 10, 3) := by decide +kernel
theorem d_Mo_walk_90 : decode prog_13_method_85_code 90 = .ok (.bipush (-2), 2) := by decide +kernel
theorem d_Mo_walk_92 : decode prog_13_method_85_code 92 = .ok (.goto 20, 3) := by decide +kernel
theorem d_Mo_walk_87 : decode prog_13_method_85_code 87 = .ok (.if_icmp .ne 8, 3) := by decide +kernel
theorem d_Mo_walk_66 : decode prog_13_method_85_code 66 = .ok (.aload_n 0, 1) := by decide +kernel
theorem d_Mo_walk_67 : decode prog_13_method_85_code 67 = .ok (.iload_n 1, 1) := by decide +kernel
theorem d_Mo_walk_68 : decode prog_13_method_85_code 68 = .ok (.iload_n 2, 1) := by decide +kernel
theorem d_Mo_walk_69 : decode prog_13_method_85_code 69 = .ok (.iload_n 3, 1) := by decide +kernel
theorem d_Mo_walk_70 : decode prog_13_method_85_code 70 = .ok (.invokevirtual 437, 3) := by decide +kernel
theorem k_Mo_soonest : MOk m_Mo_soonest 3 ∧ IOk m_Mo_soonest := ⟨⟨atG 1873 (by decide +kernel) rfl, atG 122 (by decide +kernel) rfl, ⟨by decide, by decide⟩, by decide +kernel, by decide⟩, atG 1872 (by decide +kernel) rfl, atG 86 (by decide +kernel) rfl⟩
theorem lk_Mo_437 : Cond.methodLink "ShadeTownModel" 437 ⟨"ShadeTownModel", "soonest", "(III)I"⟩ ∈ tblG := atG 1870 (by decide +kernel) rfl
theorem d_Mo_walk_73 : decode prog_13_method_85_code 73 = .ok (.ireturn, 1) := by decide +kernel
theorem d_Mo_walk_63 : decode prog_13_method_85_code 63 = .ok (.ifCond .ne 11, 3) := by decide +kernel
theorem d_Mo_walk_52 : decode prog_13_method_85_code 52 = .ok (.ifCond .ne 5, 3) := by decide +kernel
theorem d_Mo_walk_44 : decode prog_13_method_85_code 44 = .ok (.ifCond .eq 11, 3) := by decide +kernel
theorem d_Mo_walk_36 : decode prog_13_method_85_code 36 = .ok (.ifCond .eq 19, 3) := by decide +kernel
theorem d_Mo_walk_26 : decode prog_13_method_85_code 26 = .ok (.ifCond .eq 29, 3) := by decide +kernel
theorem d_Mo_walk_19 : decode prog_13_method_85_code 19 = .ok (.ifCond .eq 36, 3) := by decide +kernel
theorem d_Mo_walk_8 : decode prog_13_method_85_code 8 = .ok (.ifCond .eq 47, 3) := by decide +kernel
def f_Mo_walk (N : Nat) (σ : Mem) (a1 : Int32) (a2 : Int32) (a3 : Int32) (a4 : Int32) : Option (Int32 × Mem) :=
  bnd1 (f_Mo_in a1 0 143) fun r5 =>
  if r5 = 0 then
    (some ((-1), σ))
  else
    (bnd1 (f_Mo_in a2 0 143) fun r16 =>
    if r16 = 0 then
      (some ((-1), σ))
    else
      (bnd1 (f_Mo_isHour a3) fun r23 =>
      if r23 = 0 then
        (some ((-1), σ))
      else
        (bnd1 (f_Mo_in a4 0 2) fun r33 =>
        if r33 = 0 then
          (some ((-1), σ))
        else
          (bnd1 (f_Mo_isFree N σ a1) fun r41 =>
          if r41 = 0 then
            (some ((-1), σ))
          else
            (bnd1 (f_Mo_isFree N σ a2) fun r49 =>
            if r49 = 0 then
              (some ((-1), σ))
            else
              (bnd1 (f_Mo_laysDay N σ) fun σ58 =>
              if a4 = 0 then
                (bnd2 (f_Mo_soonest N σ58 a1 a2 a3) fun r70 σ70 =>
                some (r70, σ70))
              else
                (bnd1 (f_Mo_laysLeastSun N σ58 a1 a2 a3) fun σ78 =>
                if (mI σ78 65 46) = (-2) then
                  (some ((-2), σ78))
                else
                  (if a4 = 1 then
                    (some (mI σ78 65 45, σ78))
                  else
                    (some (mI σ78 65 46, σ78))))))))))
set_option maxHeartbeats 4000000 in
set_option maxRecDepth 20000 in
theorem c_Mo_walk (Z : ZX) {N : Nat} {σ : Mem} {a1 : Int32} {a2 : Int32} {a3 : Int32} {a4 : Int32} {r : Int32} {σ' : Mem} (h : f_Mo_walk N σ a1 a2 a3 a4 = some (r, σ')) : CI Z 6 m_Mo_walk [rf Z 65, .int a1, .int a2, .int a3, .int a4] σ r σ' := by
  refine Ct.of (by decide +kernel) (Nat.le_of_ble_eq_true rfl) (fun Y => ?_)
  show V (mkB Z) Y m_Mo_walk 6 (QP (mkB Z) Y nC 0 0 (fun v t => v = some (.int r) ∧ t = σ')) 0 0 nC σ 0 [(0, rf Z 65), (1, .int a1), (2, .int a2), (3, .int a3), (4, .int a4)] []
  unfold f_Mo_walk at h
  refine V.iload_n d_Mo_walk_0 rfl 1 rfl ?_
  refine V.iconst (v := 0) d_Mo_walk_1 (by decide) ?_
  refine V.sipush (v := 143) d_Mo_walk_2 (by decide) ?_
  obtain ⟨r5, h1, h⟩ := bnd1_e h
  refine V.sI (as := [.int a1, .int 0, .int 143]) (st := []) (c_Mo_in Z h1) k_Mo_in lk_Mo_188 (by decide) rfl rfl (Nat.le_of_ble_eq_true rfl) d_Mo_walk_5 ?_
  refine V.if_eq (tgt := 55) d_Mo_walk_8 (by decide) (fun hc8 => ?_) (fun hc8 => ?_)
  · replace h := ite_t hc8 h
    refine V.iconst (v := (-1)) d_Mo_walk_55 (by decide) ?_
    cases h
    exact V.iret rfl d_Mo_walk_56 ⟨rfl, rfl⟩
  · replace h := ite_f hc8 h
    refine V.iload_n d_Mo_walk_11 rfl 2 rfl ?_
    refine V.iconst (v := 0) d_Mo_walk_12 (by decide) ?_
    refine V.sipush (v := 143) d_Mo_walk_13 (by decide) ?_
    obtain ⟨r16, h1, h⟩ := bnd1_e h
    refine V.sI (as := [.int a2, .int 0, .int 143]) (st := []) (c_Mo_in Z h1) k_Mo_in lk_Mo_188 (by decide) rfl rfl (Nat.le_of_ble_eq_true rfl) d_Mo_walk_16 ?_
    refine V.if_eq (tgt := 55) d_Mo_walk_19 (by decide) (fun hc19 => ?_) (fun hc19 => ?_)
    · replace h := ite_t hc19 h
      refine V.iconst (v := (-1)) d_Mo_walk_55 (by decide) ?_
      cases h
      exact V.iret rfl d_Mo_walk_56 ⟨rfl, rfl⟩
    · replace h := ite_f hc19 h
      refine V.iload_n d_Mo_walk_22 rfl 3 rfl ?_
      obtain ⟨r23, h1, h⟩ := bnd1_e h
      refine V.sI (as := [.int a3]) (st := []) (c_Mo_isHour Z h1) k_Mo_isHour lk_Mo_321 (by decide) rfl rfl (Nat.le_of_ble_eq_true rfl) d_Mo_walk_23 ?_
      refine V.if_eq (tgt := 55) d_Mo_walk_26 (by decide) (fun hc26 => ?_) (fun hc26 => ?_)
      · replace h := ite_t hc26 h
        refine V.iconst (v := (-1)) d_Mo_walk_55 (by decide) ?_
        cases h
        exact V.iret rfl d_Mo_walk_56 ⟨rfl, rfl⟩
      · replace h := ite_f hc26 h
        refine V.iload d_Mo_walk_29 4 rfl ?_
        refine V.iconst (v := 0) d_Mo_walk_31 (by decide) ?_
        refine V.iconst (v := 2) d_Mo_walk_32 (by decide) ?_
        obtain ⟨r33, h1, h⟩ := bnd1_e h
        refine V.sI (as := [.int a4, .int 0, .int 2]) (st := []) (c_Mo_in Z h1) k_Mo_in lk_Mo_188 (by decide) rfl rfl (Nat.le_of_ble_eq_true rfl) d_Mo_walk_33 ?_
        refine V.if_eq (tgt := 55) d_Mo_walk_36 (by decide) (fun hc36 => ?_) (fun hc36 => ?_)
        · replace h := ite_t hc36 h
          refine V.iconst (v := (-1)) d_Mo_walk_55 (by decide) ?_
          cases h
          exact V.iret rfl d_Mo_walk_56 ⟨rfl, rfl⟩
        · replace h := ite_f hc36 h
          refine V.aload_n d_Mo_walk_39 rfl 0 rfl ?_
          refine V.iload_n d_Mo_walk_40 rfl 1 rfl ?_
          obtain ⟨r41, h1, h⟩ := bnd1_e h
          refine V.vI (as := [.int a1]) (st := []) (c_Mo_isFree Z h1) k_Mo_isFree lk_Mo_192 (by decide) rfl (by decide) ly_65 ok_Mo.1 rfl (Nat.le_of_ble_eq_true rfl) d_Mo_walk_41 ?_
          refine V.if_eq (tgt := 55) d_Mo_walk_44 (by decide) (fun hc44 => ?_) (fun hc44 => ?_)
          · replace h := ite_t hc44 h
            refine V.iconst (v := (-1)) d_Mo_walk_55 (by decide) ?_
            cases h
            exact V.iret rfl d_Mo_walk_56 ⟨rfl, rfl⟩
          · replace h := ite_f hc44 h
            refine V.aload_n d_Mo_walk_47 rfl 0 rfl ?_
            refine V.iload_n d_Mo_walk_48 rfl 2 rfl ?_
            obtain ⟨r49, h1, h⟩ := bnd1_e h
            refine V.vI (as := [.int a2]) (st := []) (c_Mo_isFree Z h1) k_Mo_isFree lk_Mo_192 (by decide) rfl (by decide) ly_65 ok_Mo.1 rfl (Nat.le_of_ble_eq_true rfl) d_Mo_walk_49 ?_
            refine V.if_ne (tgt := 57) d_Mo_walk_52 (by decide) (fun hc52 => ?_) (fun hc52 => ?_)
            · replace h := ite_f hc52 h
              refine V.aload_n d_Mo_walk_57 rfl 0 rfl ?_
              obtain ⟨σ58, h1, h⟩ := bnd1_e h
              refine V.vN (as := []) (st := []) (c_Mo_laysDay Z h1) k_Mo_laysDay lk_Mo_370 (by decide) rfl (by decide) ly_65 ok_Mo.1 rfl (Nat.le_of_ble_eq_true rfl) d_Mo_walk_58 ?_
              refine V.iload d_Mo_walk_61 4 rfl ?_
              refine V.if_ne (tgt := 74) d_Mo_walk_63 (by decide) (fun hc63 => ?_) (fun hc63 => ?_)
              · replace h := ite_f hc63 h
                refine V.aload_n d_Mo_walk_74 rfl 0 rfl ?_
                refine V.iload_n d_Mo_walk_75 rfl 1 rfl ?_
                refine V.iload_n d_Mo_walk_76 rfl 2 rfl ?_
                refine V.iload_n d_Mo_walk_77 rfl 3 rfl ?_
                obtain ⟨σ78, h1, h⟩ := bnd1_e h
                refine V.vN (as := [.int a1, .int a2, .int a3]) (st := []) (c_Mo_laysLeastSun Z h1) k_Mo_laysLeastSun lk_Mo_440 (by decide) rfl (by decide) ly_65 ok_Mo.1 rfl (Nat.le_of_ble_eq_true rfl) d_Mo_walk_78 ?_
                refine V.aload_n d_Mo_walk_81 rfl 0 rfl ?_
                refine V.getI ok_Mo fl_Mo_431 (by decide) (by decide) ly_65 rfl d_Mo_walk_82 ?_
                refine V.bipush (v := (-2)) d_Mo_walk_85 (by decide) ?_
                refine V.icmp_ne (tgt := 95) d_Mo_walk_87 (by decide) (fun hc87 => ?_) (fun hc87 => ?_)
                · replace h := ite_f hc87 h
                  refine V.iload d_Mo_walk_95 4 rfl ?_
                  refine V.iconst (v := 1) d_Mo_walk_97 (by decide) ?_
                  refine V.icmp_ne (tgt := 108) d_Mo_walk_98 (by decide) (fun hc98 => ?_) (fun hc98 => ?_)
                  · replace h := ite_f hc98 h
                    refine V.aload_n d_Mo_walk_108 rfl 0 rfl ?_
                    refine V.getI ok_Mo fl_Mo_431 (by decide) (by decide) ly_65 rfl d_Mo_walk_109 ?_
                    cases h
                    exact V.iret rfl d_Mo_walk_112 ⟨rfl, rfl⟩
                  · replace h := ite_t hc98 h
                    refine V.aload_n d_Mo_walk_101 rfl 0 rfl ?_
                    refine V.getI ok_Mo fl_Mo_428 (by decide) (by decide) ly_65 rfl d_Mo_walk_102 ?_
                    refine V.goto (tgt := 112) d_Mo_walk_105 (by decide) ?_
                    cases h
                    exact V.iret rfl d_Mo_walk_112 ⟨rfl, rfl⟩
                · replace h := ite_t hc87 h
                  refine V.bipush (v := (-2)) d_Mo_walk_90 (by decide) ?_
                  refine V.goto (tgt := 112) d_Mo_walk_92 (by decide) ?_
                  cases h
                  exact V.iret rfl d_Mo_walk_112 ⟨rfl, rfl⟩
              · replace h := ite_t hc63 h
                refine V.aload_n d_Mo_walk_66 rfl 0 rfl ?_
                refine V.iload_n d_Mo_walk_67 rfl 1 rfl ?_
                refine V.iload_n d_Mo_walk_68 rfl 2 rfl ?_
                refine V.iload_n d_Mo_walk_69 rfl 3 rfl ?_
                obtain ⟨r70, σ70, h1, h⟩ := bnd2_e h
                refine V.vI (as := [.int a1, .int a2, .int a3]) (st := []) (c_Mo_soonest Z h1) k_Mo_soonest lk_Mo_437 (by decide) rfl (by decide) ly_65 ok_Mo.1 rfl (Nat.le_of_ble_eq_true rfl) d_Mo_walk_70 ?_
                cases h
                exact V.iret rfl d_Mo_walk_73 ⟨rfl, rfl⟩
            · replace h := ite_t hc52 h
              refine V.iconst (v := (-1)) d_Mo_walk_55 (by decide) ?_
              cases h
              exact V.iret rfl d_Mo_walk_56 ⟨rfl, rfl⟩
abbrev m_Mo_buyer : MI := (⟨"ShadeTownModel", "buyer", "(III)Z"⟩, prog_13_method_87_code, 4, (Option.some Jvm.ClassFile.FieldType.boolean))
theorem d_Mo_buyer_0 : decode prog_13_method_87_code 0 = .ok (.iload_n 1, 1) := by decide +kernel
theorem d_Mo_buyer_1 : decode prog_13_method_87_code 1 = .ok (.iconst 0, 1) := by decide +kernel
theorem d_Mo_buyer_2 : decode prog_13_method_87_code 2 = .ok (.bipush 7, 2) := by decide +kernel
theorem d_Mo_buyer_4 : decode prog_13_method_87_code 4 = .ok (.invokestatic 188, 3) := by decide +kernel
theorem d_Mo_buyer_18 : decode prog_13_method_87_code 18 = .ok (.iconst 0, 1) := by decide +kernel
theorem d_Mo_buyer_19 : decode prog_13_method_87_code 19 = .ok (.ireturn, 1) := by decide +kernel
theorem d_Mo_buyer_10 : decode prog_13_method_87_code 10 = .ok (.iload_n 2, 1) := by decide +kernel
theorem d_Mo_buyer_11 : decode prog_13_method_87_code 11 = .ok (.iload_n 3, 1) := by decide +kernel
theorem d_Mo_buyer_12 : decode prog_13_method_87_code 12 = .ok (.invokestatic 185, 3) := by decide +kernel
theorem d_Mo_buyer_20 : decode prog_13_method_87_code 20 = .ok (.aload_n 0, 1) := by decide +kernel
theorem fl_Mo_96 : FL "ShadeTownModel" 96 T_Mo 48 := atG 1380 (by decide +kernel) rfl
theorem d_Mo_buyer_21 : decode prog_13_method_87_code 21 = .ok (.getfield 96, 3) := by decide +kernel
theorem d_Mo_buyer_24 : decode prog_13_method_87_code 24 = .ok (.iload_n 1, 1) := by decide +kernel
theorem d_Mo_buyer_25 : decode prog_13_method_87_code 25 = .ok (.bipush 12, 2) := by decide +kernel
theorem d_Mo_buyer_27 : decode prog_13_method_87_code 27 = .ok (.iload_n 3, 1) := by decide +kernel
theorem d_Mo_buyer_28 : decode prog_13_method_87_code 28 = .ok (.imul, 1) := by decide +kernel
theorem d_Mo_buyer_29 : decode prog_13_method_87_code 29 = .ok (.iload_n 2, 1) := by decide +kernel
theorem d_Mo_buyer_30 : decode prog_13_method_87_code 30 = .ok (.iadd, 1) := by decide +kernel
theorem d_Mo_buyer_31 : decode prog_13_method_87_code 31 = .ok (.iastore, 1) := by decide +kernel
theorem d_Mo_buyer_32 : decode prog_13_method_87_code 32 = .ok (.aload_n 0, 1) := by decide +kernel
theorem d_Mo_buyer_33 : decode prog_13_method_87_code 33 = .ok (.aload_n 0, 1) := by decide +kernel
theorem fl_Mo_444 : FL "ShadeTownModel" 444 T_Mo 47 := atG 1379 (by decide +kernel) rfl
theorem d_Mo_buyer_34 : decode prog_13_method_87_code 34 = .ok (.getfield 444, 3) := by decide +kernel
theorem d_Mo_buyer_37 : decode prog_13_method_87_code 37 = .ok (.iconst 1, 1) := by decide +kernel
theorem d_Mo_buyer_38 : decode prog_13_method_87_code 38 = .ok (.iload_n 1, 1) := by decide +kernel
theorem d_Mo_buyer_39 : decode prog_13_method_87_code 39 = .ok (.ishl, 1) := by decide +kernel
theorem d_Mo_buyer_40 : decode prog_13_method_87_code 40 = .ok (.ior, 1) := by decide +kernel
theorem d_Mo_buyer_41 : decode prog_13_method_87_code 41 = .ok (.putfield 444, 3) := by decide +kernel
theorem d_Mo_buyer_44 : decode prog_13_method_87_code 44 = .ok (.iconst 1, 1) := by decide +kernel
theorem d_Mo_buyer_45 : decode prog_13_method_87_code 45 = .ok (.ireturn, 1) := by decide +kernel
theorem d_Mo_buyer_15 : decode prog_13_method_87_code 15 = .ok (.ifCond .ne 5, 3) := by decide +kernel
theorem d_Mo_buyer_7 : decode prog_13_method_87_code 7 = .ok (.ifCond .eq 11, 3) := by decide +kernel
def f_Mo_buyer (σ : Mem) (a1 : Int32) (a2 : Int32) (a3 : Int32) : Option (Int32 × Mem) :=
  bnd1 (f_Mo_in a1 0 7) fun r4 =>
  if r4 = 0 then
    (some (0, σ))
  else
    (bnd1 (f_Mo_isIn a2 a3) fun r12 =>
    if r12 = 0 then
      (some (0, σ))
    else
      (grd (inb a1 8) <|
      letv (sI σ 94 (a1.toNatClampNeg) ((12 * a3) + a2)) fun σ31 =>
      letv (sI σ31 65 47 ((mI σ31 65 47) ||| (1 <<< (a1 &&& 31)))) fun σ41 =>
      some (1, σ41)))
set_option maxHeartbeats 4000000 in
set_option maxRecDepth 20000 in
theorem c_Mo_buyer (Z : ZX) {σ : Mem} {a1 : Int32} {a2 : Int32} {a3 : Int32} {r : Int32} {σ' : Mem} (h : f_Mo_buyer σ a1 a2 a3 = some (r, σ')) : CI Z 1 m_Mo_buyer [rf Z 65, .int a1, .int a2, .int a3] σ r σ' := by
  refine Ct.of (by decide +kernel) (Nat.le_of_ble_eq_true rfl) (fun Y => ?_)
  show V (mkB Z) Y m_Mo_buyer 1 (QP (mkB Z) Y nC 0 0 (fun v t => v = some (.int r) ∧ t = σ')) 0 0 nC σ 0 [(0, rf Z 65), (1, .int a1), (2, .int a2), (3, .int a3)] []
  unfold f_Mo_buyer at h
  refine V.iload_n d_Mo_buyer_0 rfl 1 rfl ?_
  refine V.iconst (v := 0) d_Mo_buyer_1 (by decide) ?_
  refine V.bipush (v := 7) d_Mo_buyer_2 (by decide) ?_
  obtain ⟨r4, h1, h⟩ := bnd1_e h
  refine V.sI (as := [.int a1, .int 0, .int 7]) (st := []) (c_Mo_in Z h1) k_Mo_in lk_Mo_188 (by decide) rfl rfl (Nat.le_of_ble_eq_true rfl) d_Mo_buyer_4 ?_
  refine V.if_eq (tgt := 18) d_Mo_buyer_7 (by decide) (fun hc7 => ?_) (fun hc7 => ?_)
  · replace h := ite_t hc7 h
    refine V.iconst (v := 0) d_Mo_buyer_18 (by decide) ?_
    cases h
    exact V.zret rfl rfl d_Mo_buyer_19 ⟨rfl, rfl⟩
  · replace h := ite_f hc7 h
    refine V.iload_n d_Mo_buyer_10 rfl 2 rfl ?_
    refine V.iload_n d_Mo_buyer_11 rfl 3 rfl ?_
    obtain ⟨r12, h1, h⟩ := bnd1_e h
    refine V.sI (as := [.int a2, .int a3]) (st := []) (c_Mo_isIn Z h1) k_Mo_isIn lk_Mo_185 (by decide) rfl rfl (Nat.le_of_ble_eq_true rfl) d_Mo_buyer_12 ?_
    refine V.if_ne (tgt := 20) d_Mo_buyer_15 (by decide) (fun hc15 => ?_) (fun hc15 => ?_)
    · replace h := ite_f hc15 h
      refine V.aload_n d_Mo_buyer_20 rfl 0 rfl ?_
      refine V.getR (r := 94) ok_Mo fl_Mo_96 (by decide) (by decide) ly_65 rfl d_Mo_buyer_21 ?_
      refine V.iload_n d_Mo_buyer_24 rfl 1 rfl ?_
      refine V.bipush (v := 12) d_Mo_buyer_25 (by decide) ?_
      refine V.iload_n d_Mo_buyer_27 rfl 3 rfl ?_
      refine V.imul d_Mo_buyer_28 ?_
      refine V.iload_n d_Mo_buyer_29 rfl 2 rfl ?_
      refine V.iadd d_Mo_buyer_30 ?_
      obtain ⟨gq, h⟩ := grd_e h
      obtain ⟨σ31, e_σ31, h⟩ := letv_e h
      refine V.wa (by decide) ly_94 (inb_e gq) rfl d_Mo_buyer_31 e_σ31 ?_
      refine V.aload_n d_Mo_buyer_32 rfl 0 rfl ?_
      refine V.aload_n d_Mo_buyer_33 rfl 0 rfl ?_
      refine V.getI ok_Mo fl_Mo_444 (by decide) (by decide) ly_65 rfl d_Mo_buyer_34 ?_
      refine V.iconst (v := 1) d_Mo_buyer_37 (by decide) ?_
      refine V.iload_n d_Mo_buyer_38 rfl 1 rfl ?_
      refine V.ishl d_Mo_buyer_39 ?_
      refine V.ior d_Mo_buyer_40 ?_
      obtain ⟨σ41, e_σ41, h⟩ := letv_e h
      refine V.putI ok_Mo fl_Mo_444 (by decide) (by decide) ly_65 rfl rfl rfl rfl d_Mo_buyer_41 (V.mem e_σ41 ?_)
      refine V.iconst (v := 1) d_Mo_buyer_44 (by decide) ?_
      cases h
      exact V.zret rfl rfl d_Mo_buyer_45 ⟨rfl, rfl⟩
    · replace h := ite_t hc15 h
      refine V.iconst (v := 0) d_Mo_buyer_18 (by decide) ?_
      cases h
      exact V.zret rfl rfl d_Mo_buyer_19 ⟨rfl, rfl⟩
abbrev m_Mo_isBuyer : MI := (⟨"ShadeTownModel", "isBuyer", "(I)Z"⟩, prog_13_method_86_code, 2, (Option.some Jvm.ClassFile.FieldType.boolean))
theorem d_Mo_isBuyer_0 : decode prog_13_method_86_code 0 = .ok (.iload_n 1, 1) := by decide +kernel
theorem d_Mo_isBuyer_25 : decode prog_13_method_86_code 25 = .ok (.iconst 0, 1) := by decide +kernel
theorem d_Mo_isBuyer_26 : decode prog_13_method_86_code 26 = .ok (.ireturn, 1) := by decide +kernel
theorem d_Mo_isBuyer_4 : decode prog_13_method_86_code 4 = .ok (.iload_n 1, 1) := by decide +kernel
theorem d_Mo_isBuyer_5 : decode prog_13_method_86_code 5 = .ok (.bipush 8, 2) := by decide +kernel
theorem d_Mo_isBuyer_10 : decode prog_13_method_86_code 10 = .ok (.aload_n 0, 1) := by decide +kernel
theorem d_Mo_isBuyer_11 : decode prog_13_method_86_code 11 = .ok (.getfield 444, 3) := by decide +kernel
theorem d_Mo_isBuyer_14 : decode prog_13_method_86_code 14 = .ok (.iload_n 1, 1) := by decide +kernel
theorem d_Mo_isBuyer_15 : decode prog_13_method_86_code 15 = .ok (.invokestatic 177, 3) := by decide +kernel
theorem d_Mo_isBuyer_21 : decode prog_13_method_86_code 21 = .ok (.iconst 1, 1) := by decide +kernel
theorem d_Mo_isBuyer_22 : decode prog_13_method_86_code 22 = .ok (.goto 4, 3) := by decide +kernel
theorem d_Mo_isBuyer_18 : decode prog_13_method_86_code 18 = .ok (.ifCond .eq 7, 3) := by decide +kernel
theorem d_Mo_isBuyer_7 : decode prog_13_method_86_code 7 = .ok (.if_icmp .ge 18, 3) := by decide +kernel
theorem d_Mo_isBuyer_1 : decode prog_13_method_86_code 1 = .ok (.ifCond .lt 24, 3) := by decide +kernel
def f_Mo_isBuyer (σ : Mem) (a1 : Int32) : Option (Int32) :=
  if a1 < 0 then
    (some 0)
  else
    (if 8 ≤ a1 then
      (some 0)
    else
      (bnd1 (f_Mo_has (mI σ 65 47) a1) fun r15 =>
      if r15 = 0 then
        (some 0)
      else
        (some 1)))
set_option maxHeartbeats 4000000 in
set_option maxRecDepth 20000 in
theorem c_Mo_isBuyer (Z : ZX) {σ : Mem} {a1 : Int32} {r : Int32} (h : f_Mo_isBuyer σ a1 = some r) : CI Z 1 m_Mo_isBuyer [rf Z 65, .int a1] σ r σ := by
  refine Ct.of (by decide +kernel) (Nat.le_of_ble_eq_true rfl) (fun Y => ?_)
  show V (mkB Z) Y m_Mo_isBuyer 1 (QP (mkB Z) Y nC 0 0 (fun v t => v = some (.int r) ∧ t = σ)) 0 0 nC σ 0 [(0, rf Z 65), (1, .int a1)] []
  unfold f_Mo_isBuyer at h
  refine V.iload_n d_Mo_isBuyer_0 rfl 1 rfl ?_
  refine V.if_lt (tgt := 25) d_Mo_isBuyer_1 (by decide) (fun hc1 => ?_) (fun hc1 => ?_)
  · replace h := ite_t hc1 h
    refine V.iconst (v := 0) d_Mo_isBuyer_25 (by decide) ?_
    cases h
    exact V.zret rfl rfl d_Mo_isBuyer_26 ⟨rfl, rfl⟩
  · replace h := ite_f hc1 h
    refine V.iload_n d_Mo_isBuyer_4 rfl 1 rfl ?_
    refine V.bipush (v := 8) d_Mo_isBuyer_5 (by decide) ?_
    refine V.icmp_ge (tgt := 25) d_Mo_isBuyer_7 (by decide) (fun hc7 => ?_) (fun hc7 => ?_)
    · replace h := ite_t hc7 h
      refine V.iconst (v := 0) d_Mo_isBuyer_25 (by decide) ?_
      cases h
      exact V.zret rfl rfl d_Mo_isBuyer_26 ⟨rfl, rfl⟩
    · replace h := ite_f hc7 h
      refine V.aload_n d_Mo_isBuyer_10 rfl 0 rfl ?_
      refine V.getI ok_Mo fl_Mo_444 (by decide) (by decide) ly_65 rfl d_Mo_isBuyer_11 ?_
      refine V.iload_n d_Mo_isBuyer_14 rfl 1 rfl ?_
      obtain ⟨r15, h1, h⟩ := bnd1_e h
      refine V.sI (as := [.int (mI σ 65 47), .int a1]) (st := []) (c_Mo_has Z h1) k_Mo_has lk_Mo_177 (by decide) rfl rfl (Nat.le_of_ble_eq_true rfl) d_Mo_isBuyer_15 ?_
      refine V.if_eq (tgt := 25) d_Mo_isBuyer_18 (by decide) (fun hc18 => ?_) (fun hc18 => ?_)
      · replace h := ite_t hc18 h
        refine V.iconst (v := 0) d_Mo_isBuyer_25 (by decide) ?_
        cases h
        exact V.zret rfl rfl d_Mo_isBuyer_26 ⟨rfl, rfl⟩
      · replace h := ite_f hc18 h
        refine V.iconst (v := 1) d_Mo_isBuyer_21 (by decide) ?_
        refine V.goto (tgt := 26) d_Mo_isBuyer_22 (by decide) ?_
        cases h
        exact V.zret rfl rfl d_Mo_isBuyer_26 ⟨rfl, rfl⟩
abbrev m_Mo_worthOf : MI := (⟨"ShadeTownModel", "worthOf", "(III)I"⟩, prog_13_method_88_code, 4, (Option.some Jvm.ClassFile.FieldType.int))
theorem d_Mo_worthOf_0 : decode prog_13_method_88_code 0 = .ok (.aload_n 0, 1) := by decide +kernel
theorem d_Mo_worthOf_1 : decode prog_13_method_88_code 1 = .ok (.iload_n 3, 1) := by decide +kernel
theorem d_Mo_worthOf_2 : decode prog_13_method_88_code 2 = .ok (.invokevirtual 315, 3) := by decide +kernel
theorem d_Mo_worthOf_5 : decode prog_13_method_88_code 5 = .ok (.aload_n 0, 1) := by decide +kernel
theorem d_Mo_worthOf_6 : decode prog_13_method_88_code 6 = .ok (.getfield 68, 3) := by decide +kernel
theorem d_Mo_worthOf_9 : decode prog_13_method_88_code 9 = .ok (.iconst 2, 1) := by decide +kernel
theorem d_Mo_worthOf_10 : decode prog_13_method_88_code 10 = .ok (.iload_n 2, 1) := by decide +kernel
theorem d_Mo_worthOf_11 : decode prog_13_method_88_code 11 = .ok (.bipush 12, 2) := by decide +kernel
theorem d_Mo_worthOf_13 : decode prog_13_method_88_code 13 = .ok (.irem, 1) := by decide +kernel
theorem d_Mo_worthOf_14 : decode prog_13_method_88_code 14 = .ok (.iastore, 1) := by decide +kernel
theorem d_Mo_worthOf_15 : decode prog_13_method_88_code 15 = .ok (.aload_n 0, 1) := by decide +kernel
theorem d_Mo_worthOf_16 : decode prog_13_method_88_code 16 = .ok (.getfield 68, 3) := by decide +kernel
theorem d_Mo_worthOf_19 : decode prog_13_method_88_code 19 = .ok (.iconst 3, 1) := by decide +kernel
theorem d_Mo_worthOf_20 : decode prog_13_method_88_code 20 = .ok (.iload_n 2, 1) := by decide +kernel
theorem d_Mo_worthOf_21 : decode prog_13_method_88_code 21 = .ok (.bipush 12, 2) := by decide +kernel
theorem d_Mo_worthOf_23 : decode prog_13_method_88_code 23 = .ok (.idiv, 1) := by decide +kernel
theorem d_Mo_worthOf_24 : decode prog_13_method_88_code 24 = .ok (.iastore, 1) := by decide +kernel
theorem d_Mo_worthOf_25 : decode prog_13_method_88_code 25 = .ok (.aload_n 0, 1) := by decide +kernel
theorem d_Mo_worthOf_26 : decode prog_13_method_88_code 26 = .ok (.getfield 68, 3) := by decide +kernel
theorem d_Mo_worthOf_29 : decode prog_13_method_88_code 29 = .ok (.iconst 4, 1) := by decide +kernel
theorem d_Mo_worthOf_30 : decode prog_13_method_88_code 30 = .ok (.aload_n 0, 1) := by decide +kernel
theorem d_Mo_worthOf_31 : decode prog_13_method_88_code 31 = .ok (.iload_n 3, 1) := by decide +kernel
theorem d_Mo_worthOf_32 : decode prog_13_method_88_code 32 = .ok (.iload_n 2, 1) := by decide +kernel
theorem d_Mo_worthOf_33 : decode prog_13_method_88_code 33 = .ok (.invokevirtual 373, 3) := by decide +kernel
theorem d_Mo_worthOf_36 : decode prog_13_method_88_code 36 = .ok (.invokestatic 376, 3) := by decide +kernel
theorem d_Mo_worthOf_39 : decode prog_13_method_88_code 39 = .ok (.iastore, 1) := by decide +kernel
theorem d_Mo_worthOf_40 : decode prog_13_method_88_code 40 = .ok (.aload_n 0, 1) := by decide +kernel
theorem d_Mo_worthOf_41 : decode prog_13_method_88_code 41 = .ok (.getfield 68, 3) := by decide +kernel
theorem d_Mo_worthOf_44 : decode prog_13_method_88_code 44 = .ok (.iconst 5, 1) := by decide +kernel
theorem d_Mo_worthOf_45 : decode prog_13_method_88_code 45 = .ok (.iload_n 1, 1) := by decide +kernel
theorem d_Mo_worthOf_46 : decode prog_13_method_88_code 46 = .ok (.iastore, 1) := by decide +kernel
theorem d_Mo_worthOf_47 : decode prog_13_method_88_code 47 = .ok (.aload_n 0, 1) := by decide +kernel
theorem d_Mo_worthOf_48 : decode prog_13_method_88_code 48 = .ok (.getfield 68, 3) := by decide +kernel
theorem d_Mo_worthOf_51 : decode prog_13_method_88_code 51 = .ok (.bipush 6, 2) := by decide +kernel
theorem d_Mo_worthOf_53 : decode prog_13_method_88_code 53 = .ok (.iload_n 2, 1) := by decide +kernel
theorem d_Mo_worthOf_54 : decode prog_13_method_88_code 54 = .ok (.bipush 12, 2) := by decide +kernel
theorem d_Mo_worthOf_56 : decode prog_13_method_88_code 56 = .ok (.irem, 1) := by decide +kernel
theorem d_Mo_worthOf_57 : decode prog_13_method_88_code 57 = .ok (.aload_n 0, 1) := by decide +kernel
theorem d_Mo_worthOf_58 : decode prog_13_method_88_code 58 = .ok (.getfield 96, 3) := by decide +kernel
theorem d_Mo_worthOf_61 : decode prog_13_method_88_code 61 = .ok (.iload_n 1, 1) := by decide +kernel
theorem d_Mo_worthOf_62 : decode prog_13_method_88_code 62 = .ok (.iaload, 1) := by decide +kernel
theorem d_Mo_worthOf_63 : decode prog_13_method_88_code 63 = .ok (.bipush 12, 2) := by decide +kernel
theorem d_Mo_worthOf_65 : decode prog_13_method_88_code 65 = .ok (.irem, 1) := by decide +kernel
theorem d_Mo_worthOf_66 : decode prog_13_method_88_code 66 = .ok (.isub, 1) := by decide +kernel
theorem d_Mo_worthOf_67 : decode prog_13_method_88_code 67 = .ok (.invokestatic 336, 3) := by decide +kernel
theorem d_Mo_worthOf_70 : decode prog_13_method_88_code 70 = .ok (.iload_n 2, 1) := by decide +kernel
theorem d_Mo_worthOf_71 : decode prog_13_method_88_code 71 = .ok (.bipush 12, 2) := by decide +kernel
theorem d_Mo_worthOf_73 : decode prog_13_method_88_code 73 = .ok (.idiv, 1) := by decide +kernel
theorem d_Mo_worthOf_74 : decode prog_13_method_88_code 74 = .ok (.aload_n 0, 1) := by decide +kernel
theorem d_Mo_worthOf_75 : decode prog_13_method_88_code 75 = .ok (.getfield 96, 3) := by decide +kernel
theorem d_Mo_worthOf_78 : decode prog_13_method_88_code 78 = .ok (.iload_n 1, 1) := by decide +kernel
theorem d_Mo_worthOf_79 : decode prog_13_method_88_code 79 = .ok (.iaload, 1) := by decide +kernel
theorem d_Mo_worthOf_80 : decode prog_13_method_88_code 80 = .ok (.bipush 12, 2) := by decide +kernel
theorem d_Mo_worthOf_82 : decode prog_13_method_88_code 82 = .ok (.idiv, 1) := by decide +kernel
theorem d_Mo_worthOf_83 : decode prog_13_method_88_code 83 = .ok (.isub, 1) := by decide +kernel
theorem d_Mo_worthOf_84 : decode prog_13_method_88_code 84 = .ok (.invokestatic 336, 3) := by decide +kernel
theorem d_Mo_worthOf_87 : decode prog_13_method_88_code 87 = .ok (.iadd, 1) := by decide +kernel
theorem d_Mo_worthOf_88 : decode prog_13_method_88_code 88 = .ok (.iastore, 1) := by decide +kernel
theorem d_Mo_worthOf_89 : decode prog_13_method_88_code 89 = .ok (.aload_n 0, 1) := by decide +kernel
theorem d_Mo_worthOf_90 : decode prog_13_method_88_code 90 = .ok (.bipush 119, 2) := by decide +kernel
theorem d_Mo_worthOf_92 : decode prog_13_method_88_code 92 = .ok (.iconst 0, 1) := by decide +kernel
theorem d_Mo_worthOf_93 : decode prog_13_method_88_code 93 = .ok (.sipush 999, 3) := by decide +kernel
theorem d_Mo_worthOf_96 : decode prog_13_method_88_code 96 = .ok (.invokevirtual 318, 3) := by decide +kernel
theorem d_Mo_worthOf_99 : decode prog_13_method_88_code 99 = .ok (.ireturn, 1) := by decide +kernel
def f_Mo_worthOf (N : Nat) (σ : Mem) (a1 : Int32) (a2 : Int32) (a3 : Int32) : Option (Int32 × Mem) :=
  bnd1 (f_Mo_feels N σ a3) fun σ2 =>
  letv (sI σ2 85 2 (a2 - a2 / 12 * 12)) fun σ14 =>
  letv (sI σ14 85 3 (a2 / 12)) fun σ24 =>
  bnd1 (f_Mo_whoOn σ24 a3 a2) fun r33 =>
  bnd1 (f_Mo_bits N r33) fun r36 =>
  letv (sI σ24 85 4 r36) fun σ39 =>
  letv (sI σ39 85 5 a1) fun σ46 =>
  grd (inb a1 8) <|
  bnd1 (f_Mo_size ((a2 - a2 / 12 * 12) - ((mI σ46 94 (a1.toNatClampNeg)) - (mI σ46 94 (a1.toNatClampNeg)) / 12 * 12))) fun r67 =>
  grd (inb a1 8) <|
  bnd1 (f_Mo_size ((a2 / 12) - ((mI σ46 94 (a1.toNatClampNeg)) / 12))) fun r84 =>
  letv (sI σ46 85 6 (r67 + r84)) fun σ88 =>
  bnd2 (f_Mo_byLaw N σ88 119 0 999) fun r96 σ96 =>
  some (r96, σ96)
set_option maxHeartbeats 4000000 in
set_option maxRecDepth 20000 in
theorem c_Mo_worthOf (Z : ZX) {N : Nat} {σ : Mem} {a1 : Int32} {a2 : Int32} {a3 : Int32} {r : Int32} {σ' : Mem} (h : f_Mo_worthOf N σ a1 a2 a3 = some (r, σ')) : CI Z 3 m_Mo_worthOf [rf Z 65, .int a1, .int a2, .int a3] σ r σ' := by
  refine Ct.of (by decide +kernel) (Nat.le_of_ble_eq_true rfl) (fun Y => ?_)
  show V (mkB Z) Y m_Mo_worthOf 3 (QP (mkB Z) Y nC 0 0 (fun v t => v = some (.int r) ∧ t = σ')) 0 0 nC σ 0 [(0, rf Z 65), (1, .int a1), (2, .int a2), (3, .int a3)] []
  unfold f_Mo_worthOf at h
  refine V.aload_n d_Mo_worthOf_0 rfl 0 rfl ?_
  refine V.iload_n d_Mo_worthOf_1 rfl 3 rfl ?_
  obtain ⟨σ2, h1, h⟩ := bnd1_e h
  refine V.vN (as := [.int a3]) (st := []) (c_Mo_feels Z h1) k_Mo_feels lk_Mo_315 (by decide) rfl (by decide) ly_65 ok_Mo.1 rfl (Nat.le_of_ble_eq_true rfl) d_Mo_worthOf_2 ?_
  refine V.aload_n d_Mo_worthOf_5 rfl 0 rfl ?_
  refine V.getR (r := 85) ok_Mo fl_Mo_68 (by decide) (by decide) ly_65 rfl d_Mo_worthOf_6 ?_
  refine V.iconst (v := 2) d_Mo_worthOf_9 (by decide) ?_
  refine V.iload_n d_Mo_worthOf_10 rfl 2 rfl ?_
  refine V.bipush (v := 12) d_Mo_worthOf_11 (by decide) ?_
  refine V.irem d_Mo_worthOf_13 (by decide) ?_
  obtain ⟨σ14, e_σ14, h⟩ := letv_e h
  refine V.wa (j := 2) (by decide) ly_85 (inb_e (by decide)) (by decide) d_Mo_worthOf_14 e_σ14 ?_
  refine V.aload_n d_Mo_worthOf_15 rfl 0 rfl ?_
  refine V.getR (r := 85) ok_Mo fl_Mo_68 (by decide) (by decide) ly_65 rfl d_Mo_worthOf_16 ?_
  refine V.iconst (v := 3) d_Mo_worthOf_19 (by decide) ?_
  refine V.iload_n d_Mo_worthOf_20 rfl 2 rfl ?_
  refine V.bipush (v := 12) d_Mo_worthOf_21 (by decide) ?_
  refine V.idiv d_Mo_worthOf_23 (by decide) ?_
  obtain ⟨σ24, e_σ24, h⟩ := letv_e h
  refine V.wa (j := 3) (by decide) ly_85 (inb_e (by decide)) (by decide) d_Mo_worthOf_24 e_σ24 ?_
  refine V.aload_n d_Mo_worthOf_25 rfl 0 rfl ?_
  refine V.getR (r := 85) ok_Mo fl_Mo_68 (by decide) (by decide) ly_65 rfl d_Mo_worthOf_26 ?_
  refine V.iconst (v := 4) d_Mo_worthOf_29 (by decide) ?_
  refine V.aload_n d_Mo_worthOf_30 rfl 0 rfl ?_
  refine V.iload_n d_Mo_worthOf_31 rfl 3 rfl ?_
  refine V.iload_n d_Mo_worthOf_32 rfl 2 rfl ?_
  obtain ⟨r33, h1, h⟩ := bnd1_e h
  refine V.vI (as := [.int a3, .int a2]) (st := [.int 4, rf Z 85]) (c_Mo_whoOn Z h1) k_Mo_whoOn lk_Mo_373 (by decide) rfl (by decide) ly_65 ok_Mo.1 rfl (Nat.le_of_ble_eq_true rfl) d_Mo_worthOf_33 ?_
  obtain ⟨r36, h1, h⟩ := bnd1_e h
  refine V.sI (as := [.int r33]) (st := [.int 4, rf Z 85]) (c_Mo_bits Z h1) k_Mo_bits lk_Mo_376 (by decide) rfl rfl (Nat.le_of_ble_eq_true rfl) d_Mo_worthOf_36 ?_
  obtain ⟨σ39, e_σ39, h⟩ := letv_e h
  refine V.wa (j := 4) (by decide) ly_85 (inb_e (by decide)) (by decide) d_Mo_worthOf_39 e_σ39 ?_
  refine V.aload_n d_Mo_worthOf_40 rfl 0 rfl ?_
  refine V.getR (r := 85) ok_Mo fl_Mo_68 (by decide) (by decide) ly_65 rfl d_Mo_worthOf_41 ?_
  refine V.iconst (v := 5) d_Mo_worthOf_44 (by decide) ?_
  refine V.iload_n d_Mo_worthOf_45 rfl 1 rfl ?_
  obtain ⟨σ46, e_σ46, h⟩ := letv_e h
  refine V.wa (j := 5) (by decide) ly_85 (inb_e (by decide)) (by decide) d_Mo_worthOf_46 e_σ46 ?_
  refine V.aload_n d_Mo_worthOf_47 rfl 0 rfl ?_
  refine V.getR (r := 85) ok_Mo fl_Mo_68 (by decide) (by decide) ly_65 rfl d_Mo_worthOf_48 ?_
  refine V.bipush (v := 6) d_Mo_worthOf_51 (by decide) ?_
  refine V.iload_n d_Mo_worthOf_53 rfl 2 rfl ?_
  refine V.bipush (v := 12) d_Mo_worthOf_54 (by decide) ?_
  refine V.irem d_Mo_worthOf_56 (by decide) ?_
  refine V.aload_n d_Mo_worthOf_57 rfl 0 rfl ?_
  refine V.getR (r := 94) ok_Mo fl_Mo_96 (by decide) (by decide) ly_65 rfl d_Mo_worthOf_58 ?_
  refine V.iload_n d_Mo_worthOf_61 rfl 1 rfl ?_
  obtain ⟨gq, h⟩ := grd_e h
  refine V.ra (by decide) ly_94 (inb_e gq) rfl d_Mo_worthOf_62 ?_
  refine V.bipush (v := 12) d_Mo_worthOf_63 (by decide) ?_
  refine V.irem d_Mo_worthOf_65 (by decide) ?_
  refine V.isub d_Mo_worthOf_66 ?_
  obtain ⟨r67, h1, h⟩ := bnd1_e h
  refine V.sI (as := [.int ((a2 - a2 / 12 * 12) - ((mI σ46 94 (a1.toNatClampNeg)) - (mI σ46 94 (a1.toNatClampNeg)) / 12 * 12))]) (st := [.int 6, rf Z 85]) (c_Mo_size Z h1) k_Mo_size lk_Mo_336 (by decide) rfl rfl (Nat.le_of_ble_eq_true rfl) d_Mo_worthOf_67 ?_
  refine V.iload_n d_Mo_worthOf_70 rfl 2 rfl ?_
  refine V.bipush (v := 12) d_Mo_worthOf_71 (by decide) ?_
  refine V.idiv d_Mo_worthOf_73 (by decide) ?_
  refine V.aload_n d_Mo_worthOf_74 rfl 0 rfl ?_
  refine V.getR (r := 94) ok_Mo fl_Mo_96 (by decide) (by decide) ly_65 rfl d_Mo_worthOf_75 ?_
  refine V.iload_n d_Mo_worthOf_78 rfl 1 rfl ?_
  obtain ⟨gq, h⟩ := grd_e h
  refine V.ra (by decide) ly_94 (inb_e gq) rfl d_Mo_worthOf_79 ?_
  refine V.bipush (v := 12) d_Mo_worthOf_80 (by decide) ?_
  refine V.idiv d_Mo_worthOf_82 (by decide) ?_
  refine V.isub d_Mo_worthOf_83 ?_
  obtain ⟨r84, h1, h⟩ := bnd1_e h
  refine V.sI (as := [.int ((a2 / 12) - ((mI σ46 94 (a1.toNatClampNeg)) / 12))]) (st := [.int r67, .int 6, rf Z 85]) (c_Mo_size Z h1) k_Mo_size lk_Mo_336 (by decide) rfl rfl (Nat.le_of_ble_eq_true rfl) d_Mo_worthOf_84 ?_
  refine V.iadd d_Mo_worthOf_87 ?_
  obtain ⟨σ88, e_σ88, h⟩ := letv_e h
  refine V.wa (j := 6) (by decide) ly_85 (inb_e (by decide)) (by decide) d_Mo_worthOf_88 e_σ88 ?_
  refine V.aload_n d_Mo_worthOf_89 rfl 0 rfl ?_
  refine V.bipush (v := 119) d_Mo_worthOf_90 (by decide) ?_
  refine V.iconst (v := 0) d_Mo_worthOf_92 (by decide) ?_
  refine V.sipush (v := 999) d_Mo_worthOf_93 (by decide) ?_
  obtain ⟨r96, σ96, h1, h⟩ := bnd2_e h
  refine V.vI (as := [.int 119, .int 0, .int 999]) (st := []) (c_Mo_byLaw Z h1) k_Mo_byLaw lk_Mo_318 (by decide) rfl (by decide) ly_65 ok_Mo.1 rfl (Nat.le_of_ble_eq_true rfl) d_Mo_worthOf_96 ?_
  cases h
  exact V.iret rfl d_Mo_worthOf_99 ⟨rfl, rfl⟩
abbrev m_Mo_worth : MI := (⟨"ShadeTownModel", "worth", "(IIII)I"⟩, prog_13_method_89_code, 5, (Option.some Jvm.ClassFile.FieldType.int))
theorem d_Mo_worth_0 : decode prog_13_method_89_code 0 = .ok (.aload_n 0, 1) := by decide +kernel
theorem d_Mo_worth_1 : decode prog_13_method_89_code 1 = .ok (.iload_n 1, 1) := by decide +kernel
theorem d_Mo_worth_2 : decode prog_13_method_89_code 2 = .ok (.invokevirtual 447, 3) := by decide +kernel
theorem k_Mo_isBuyer : MOk m_Mo_isBuyer 1 ∧ IOk m_Mo_isBuyer := ⟨⟨atG 1904 (by decide +kernel) rfl, atG 122 (by decide +kernel) rfl, ⟨by decide, by decide⟩, by decide +kernel, by decide⟩, atG 1903 (by decide +kernel) rfl, atG 91 (by decide +kernel) rfl⟩
theorem lk_Mo_447 : Cond.methodLink "ShadeTownModel" 447 ⟨"ShadeTownModel", "isBuyer", "(I)Z"⟩ ∈ tblG := atG 1901 (by decide +kernel) rfl
theorem d_Mo_worth_24 : decode prog_13_method_89_code 24 = .ok (.iconst (-1), 1) := by decide +kernel
theorem d_Mo_worth_25 : decode prog_13_method_89_code 25 = .ok (.ireturn, 1) := by decide +kernel
theorem d_Mo_worth_8 : decode prog_13_method_89_code 8 = .ok (.iload_n 2, 1) := by decide +kernel
theorem d_Mo_worth_9 : decode prog_13_method_89_code 9 = .ok (.iload_n 3, 1) := by decide +kernel
theorem d_Mo_worth_10 : decode prog_13_method_89_code 10 = .ok (.invokestatic 185, 3) := by decide +kernel
theorem d_Mo_worth_16 : decode prog_13_method_89_code 16 = .ok (.iload 4, 2) := by decide +kernel
theorem d_Mo_worth_18 : decode prog_13_method_89_code 18 = .ok (.invokestatic 321, 3) := by decide +kernel
theorem d_Mo_worth_26 : decode prog_13_method_89_code 26 = .ok (.aload_n 0, 1) := by decide +kernel
theorem d_Mo_worth_27 : decode prog_13_method_89_code 27 = .ok (.invokevirtual 370, 3) := by decide +kernel
theorem d_Mo_worth_30 : decode prog_13_method_89_code 30 = .ok (.aload_n 0, 1) := by decide +kernel
theorem d_Mo_worth_31 : decode prog_13_method_89_code 31 = .ok (.iload_n 1, 1) := by decide +kernel
theorem d_Mo_worth_32 : decode prog_13_method_89_code 32 = .ok (.bipush 12, 2) := by decide +kernel
theorem d_Mo_worth_34 : decode prog_13_method_89_code 34 = .ok (.iload_n 3, 1) := by decide +kernel
theorem d_Mo_worth_35 : decode prog_13_method_89_code 35 = .ok (.imul, 1) := by decide +kernel
theorem d_Mo_worth_36 : decode prog_13_method_89_code 36 = .ok (.iload_n 2, 1) := by decide +kernel
theorem d_Mo_worth_37 : decode prog_13_method_89_code 37 = .ok (.iadd, 1) := by decide +kernel
theorem d_Mo_worth_38 : decode prog_13_method_89_code 38 = .ok (.iload 4, 2) := by decide +kernel
theorem d_Mo_worth_40 : decode prog_13_method_89_code 40 = .ok (.invokevirtual 450, 3) := by decide +kernel
theorem k_Mo_worthOf : MOk m_Mo_worthOf 3 ∧ IOk m_Mo_worthOf := ⟨⟨atG 1908 (by decide +kernel) rfl, atG 122 (by decide +kernel) rfl, ⟨by decide, by decide⟩, by decide +kernel, by decide⟩, atG 1907 (by decide +kernel) rfl, atG 92 (by decide +kernel) rfl⟩
theorem lk_Mo_450 : Cond.methodLink "ShadeTownModel" 450 ⟨"ShadeTownModel", "worthOf", "(III)I"⟩ ∈ tblG := atG 1905 (by decide +kernel) rfl
theorem d_Mo_worth_43 : decode prog_13_method_89_code 43 = .ok (.ireturn, 1) := by decide +kernel
theorem d_Mo_worth_21 : decode prog_13_method_89_code 21 = .ok (.ifCond .ne 5, 3) := by decide +kernel
theorem d_Mo_worth_13 : decode prog_13_method_89_code 13 = .ok (.ifCond .eq 11, 3) := by decide +kernel
theorem d_Mo_worth_5 : decode prog_13_method_89_code 5 = .ok (.ifCond .eq 19, 3) := by decide +kernel
def f_Mo_worth (N : Nat) (σ : Mem) (a1 : Int32) (a2 : Int32) (a3 : Int32) (a4 : Int32) : Option (Int32 × Mem) :=
  bnd1 (f_Mo_isBuyer σ a1) fun r2 =>
  if r2 = 0 then
    (some ((-1), σ))
  else
    (bnd1 (f_Mo_isIn a2 a3) fun r10 =>
    if r10 = 0 then
      (some ((-1), σ))
    else
      (bnd1 (f_Mo_isHour a4) fun r18 =>
      if r18 = 0 then
        (some ((-1), σ))
      else
        (bnd1 (f_Mo_laysDay N σ) fun σ27 =>
        bnd2 (f_Mo_worthOf N σ27 a1 ((12 * a3) + a2) a4) fun r40 σ40 =>
        some (r40, σ40))))
set_option maxHeartbeats 4000000 in
set_option maxRecDepth 20000 in
theorem c_Mo_worth (Z : ZX) {N : Nat} {σ : Mem} {a1 : Int32} {a2 : Int32} {a3 : Int32} {a4 : Int32} {r : Int32} {σ' : Mem} (h : f_Mo_worth N σ a1 a2 a3 a4 = some (r, σ')) : CI Z 6 m_Mo_worth [rf Z 65, .int a1, .int a2, .int a3, .int a4] σ r σ' := by
  refine Ct.of (by decide +kernel) (Nat.le_of_ble_eq_true rfl) (fun Y => ?_)
  show V (mkB Z) Y m_Mo_worth 6 (QP (mkB Z) Y nC 0 0 (fun v t => v = some (.int r) ∧ t = σ')) 0 0 nC σ 0 [(0, rf Z 65), (1, .int a1), (2, .int a2), (3, .int a3), (4, .int a4)] []
  unfold f_Mo_worth at h
  refine V.aload_n d_Mo_worth_0 rfl 0 rfl ?_
  refine V.iload_n d_Mo_worth_1 rfl 1 rfl ?_
  obtain ⟨r2, h1, h⟩ := bnd1_e h
  refine V.vI (as := [.int a1]) (st := []) (c_Mo_isBuyer Z h1) k_Mo_isBuyer lk_Mo_447 (by decide) rfl (by decide) ly_65 ok_Mo.1 rfl (Nat.le_of_ble_eq_true rfl) d_Mo_worth_2 ?_
  refine V.if_eq (tgt := 24) d_Mo_worth_5 (by decide) (fun hc5 => ?_) (fun hc5 => ?_)
  · replace h := ite_t hc5 h
    refine V.iconst (v := (-1)) d_Mo_worth_24 (by decide) ?_
    cases h
    exact V.iret rfl d_Mo_worth_25 ⟨rfl, rfl⟩
  · replace h := ite_f hc5 h
    refine V.iload_n d_Mo_worth_8 rfl 2 rfl ?_
    refine V.iload_n d_Mo_worth_9 rfl 3 rfl ?_
    obtain ⟨r10, h1, h⟩ := bnd1_e h
    refine V.sI (as := [.int a2, .int a3]) (st := []) (c_Mo_isIn Z h1) k_Mo_isIn lk_Mo_185 (by decide) rfl rfl (Nat.le_of_ble_eq_true rfl) d_Mo_worth_10 ?_
    refine V.if_eq (tgt := 24) d_Mo_worth_13 (by decide) (fun hc13 => ?_) (fun hc13 => ?_)
    · replace h := ite_t hc13 h
      refine V.iconst (v := (-1)) d_Mo_worth_24 (by decide) ?_
      cases h
      exact V.iret rfl d_Mo_worth_25 ⟨rfl, rfl⟩
    · replace h := ite_f hc13 h
      refine V.iload d_Mo_worth_16 4 rfl ?_
      obtain ⟨r18, h1, h⟩ := bnd1_e h
      refine V.sI (as := [.int a4]) (st := []) (c_Mo_isHour Z h1) k_Mo_isHour lk_Mo_321 (by decide) rfl rfl (Nat.le_of_ble_eq_true rfl) d_Mo_worth_18 ?_
      refine V.if_ne (tgt := 26) d_Mo_worth_21 (by decide) (fun hc21 => ?_) (fun hc21 => ?_)
      · replace h := ite_f hc21 h
        refine V.aload_n d_Mo_worth_26 rfl 0 rfl ?_
        obtain ⟨σ27, h1, h⟩ := bnd1_e h
        refine V.vN (as := []) (st := []) (c_Mo_laysDay Z h1) k_Mo_laysDay lk_Mo_370 (by decide) rfl (by decide) ly_65 ok_Mo.1 rfl (Nat.le_of_ble_eq_true rfl) d_Mo_worth_27 ?_
        refine V.aload_n d_Mo_worth_30 rfl 0 rfl ?_
        refine V.iload_n d_Mo_worth_31 rfl 1 rfl ?_
        refine V.bipush (v := 12) d_Mo_worth_32 (by decide) ?_
        refine V.iload_n d_Mo_worth_34 rfl 3 rfl ?_
        refine V.imul d_Mo_worth_35 ?_
        refine V.iload_n d_Mo_worth_36 rfl 2 rfl ?_
        refine V.iadd d_Mo_worth_37 ?_
        refine V.iload d_Mo_worth_38 4 rfl ?_
        obtain ⟨r40, σ40, h1, h⟩ := bnd2_e h
        refine V.vI (as := [.int a1, .int ((12 * a3) + a2), .int a4]) (st := []) (c_Mo_worthOf Z h1) k_Mo_worthOf lk_Mo_450 (by decide) rfl (by decide) ly_65 ok_Mo.1 rfl (Nat.le_of_ble_eq_true rfl) d_Mo_worth_40 ?_
        cases h
        exact V.iret rfl d_Mo_worth_43 ⟨rfl, rfl⟩
      · replace h := ite_t hc21 h
        refine V.iconst (v := (-1)) d_Mo_worth_24 (by decide) ?_
        cases h
        exact V.iret rfl d_Mo_worth_25 ⟨rfl, rfl⟩
abbrev m_Mo_sells : MI := (⟨"ShadeTownModel", "sells", "(II)V"⟩, prog_13_method_90_code, 9, (Option.none : Option Jvm.ClassFile.FieldType))
theorem d_Mo_sells_0 : decode prog_13_method_90_code 0 = .ok (.iload_n 1, 1) := by decide +kernel
theorem d_Mo_sells_1 : decode prog_13_method_90_code 1 = .ok (.istore_n 3, 1) := by decide +kernel
theorem d_Mo_sells_2 : decode prog_13_method_90_code 2 = .ok (.iload_n 3, 1) := by decide +kernel
theorem d_Mo_sells_161 : decode prog_13_method_90_code 161 = .ok (.return_, 1) := by decide +kernel
theorem d_Mo_sells_6 : decode prog_13_method_90_code 6 = .ok (.iload_n 3, 1) := by decide +kernel
theorem d_Mo_sells_7 : decode prog_13_method_90_code 7 = .ok (.iload_n 1, 1) := by decide +kernel
theorem d_Mo_sells_8 : decode prog_13_method_90_code 8 = .ok (.iconst (-1), 1) := by decide +kernel
theorem d_Mo_sells_9 : decode prog_13_method_90_code 9 = .ok (.ixor, 1) := by decide +kernel
theorem d_Mo_sells_10 : decode prog_13_method_90_code 10 = .ok (.iand, 1) := by decide +kernel
theorem d_Mo_sells_17 : decode prog_13_method_90_code 17 = .ok (.iconst 0, 1) := by decide +kernel
theorem d_Mo_sells_18 : decode prog_13_method_90_code 18 = .ok (.istore 4, 2) := by decide +kernel
theorem d_Mo_sells_20 : decode prog_13_method_90_code 20 = .ok (.iload 4, 2) := by decide +kernel
theorem d_Mo_sells_22 : decode prog_13_method_90_code 22 = .ok (.bipush 8, 2) := by decide +kernel
theorem d_Mo_sells_27 : decode prog_13_method_90_code 27 = .ok (.iload_n 3, 1) := by decide +kernel
theorem d_Mo_sells_28 : decode prog_13_method_90_code 28 = .ok (.iconst 1, 1) := by decide +kernel
theorem d_Mo_sells_29 : decode prog_13_method_90_code 29 = .ok (.iload 4, 2) := by decide +kernel
theorem d_Mo_sells_31 : decode prog_13_method_90_code 31 = .ok (.ishl, 1) := by decide +kernel
theorem d_Mo_sells_32 : decode prog_13_method_90_code 32 = .ok (.iconst (-1), 1) := by decide +kernel
theorem d_Mo_sells_33 : decode prog_13_method_90_code 33 = .ok (.ixor, 1) := by decide +kernel
theorem d_Mo_sells_34 : decode prog_13_method_90_code 34 = .ok (.iand, 1) := by decide +kernel
theorem d_Mo_sells_35 : decode prog_13_method_90_code 35 = .ok (.istore 5, 2) := by decide +kernel
theorem d_Mo_sells_37 : decode prog_13_method_90_code 37 = .ok (.iload_n 3, 1) := by decide +kernel
theorem d_Mo_sells_38 : decode prog_13_method_90_code 38 = .ok (.iload 4, 2) := by decide +kernel
theorem d_Mo_sells_40 : decode prog_13_method_90_code 40 = .ok (.invokestatic 177, 3) := by decide +kernel
theorem d_Mo_sells_46 : decode prog_13_method_90_code 46 = .ok (.aload_n 0, 1) := by decide +kernel
theorem fl_Mo_99 : FL "ShadeTownModel" 99 T_Mo 49 := atG 1381 (by decide +kernel) rfl
theorem d_Mo_sells_47 : decode prog_13_method_90_code 47 = .ok (.getfield 99, 3) := by decide +kernel
theorem d_Mo_sells_50 : decode prog_13_method_90_code 50 = .ok (.iload 5, 2) := by decide +kernel
theorem d_Mo_sells_52 : decode prog_13_method_90_code 52 = .ok (.iaload, 1) := by decide +kernel
theorem d_Mo_sells_59 : decode prog_13_method_90_code 59 = .ok (.aload_n 0, 1) := by decide +kernel
theorem d_Mo_sells_60 : decode prog_13_method_90_code 60 = .ok (.getfield 99, 3) := by decide +kernel
theorem d_Mo_sells_63 : decode prog_13_method_90_code 63 = .ok (.iload 5, 2) := by decide +kernel
theorem d_Mo_sells_65 : decode prog_13_method_90_code 65 = .ok (.iaload, 1) := by decide +kernel
theorem d_Mo_sells_66 : decode prog_13_method_90_code 66 = .ok (.aload_n 0, 1) := by decide +kernel
theorem fl_Mo_109 : FL "ShadeTownModel" 109 T_Mo 52 := atG 1384 (by decide +kernel) rfl
theorem d_Mo_sells_67 : decode prog_13_method_90_code 67 = .ok (.getfield 109, 3) := by decide +kernel
theorem d_Mo_sells_70 : decode prog_13_method_90_code 70 = .ok (.iload 4, 2) := by decide +kernel
theorem d_Mo_sells_72 : decode prog_13_method_90_code 72 = .ok (.iaload, 1) := by decide +kernel
theorem d_Mo_sells_73 : decode prog_13_method_90_code 73 = .ok (.iadd, 1) := by decide +kernel
theorem d_Mo_sells_74 : decode prog_13_method_90_code 74 = .ok (.istore 6, 2) := by decide +kernel
theorem d_Mo_sells_76 : decode prog_13_method_90_code 76 = .ok (.aload_n 0, 1) := by decide +kernel
theorem fl_Mo_102 : FL "ShadeTownModel" 102 T_Mo 50 := atG 1382 (by decide +kernel) rfl
theorem d_Mo_sells_77 : decode prog_13_method_90_code 77 = .ok (.getfield 102, 3) := by decide +kernel
theorem d_Mo_sells_80 : decode prog_13_method_90_code 80 = .ok (.iload 5, 2) := by decide +kernel
theorem d_Mo_sells_82 : decode prog_13_method_90_code 82 = .ok (.laload, 1) := by decide +kernel
theorem d_Mo_sells_83 : decode prog_13_method_90_code 83 = .ok (.iload_n 2, 1) := by decide +kernel
theorem d_Mo_sells_84 : decode prog_13_method_90_code 84 = .ok (.i2l, 1) := by decide +kernel
theorem d_Mo_sells_85 : decode prog_13_method_90_code 85 = .ok (.aload_n 0, 1) := by decide +kernel
theorem fl_Mo_106 : FL "ShadeTownModel" 106 T_Mo 51 := atG 1383 (by decide +kernel) rfl
theorem d_Mo_sells_86 : decode prog_13_method_90_code 86 = .ok (.getfield 106, 3) := by decide +kernel
theorem d_Mo_sells_89 : decode prog_13_method_90_code 89 = .ok (.iload 4, 2) := by decide +kernel
theorem d_Mo_sells_91 : decode prog_13_method_90_code 91 = .ok (.laload, 1) := by decide +kernel
theorem d_Mo_sells_92 : decode prog_13_method_90_code 92 = .ok (.lmul, 1) := by decide +kernel
theorem d_Mo_sells_93 : decode prog_13_method_90_code 93 = .ok (.ladd, 1) := by decide +kernel
theorem d_Mo_sells_94 : decode prog_13_method_90_code 94 = .ok (.lstore 7, 2) := by decide +kernel
theorem d_Mo_sells_96 : decode prog_13_method_90_code 96 = .ok (.iload 6, 2) := by decide +kernel
theorem d_Mo_sells_98 : decode prog_13_method_90_code 98 = .ok (.aload_n 0, 1) := by decide +kernel
theorem d_Mo_sells_99 : decode prog_13_method_90_code 99 = .ok (.getfield 99, 3) := by decide +kernel
theorem d_Mo_sells_102 : decode prog_13_method_90_code 102 = .ok (.iload_n 3, 1) := by decide +kernel
theorem d_Mo_sells_103 : decode prog_13_method_90_code 103 = .ok (.iaload, 1) := by decide +kernel
theorem d_Mo_sells_107 : decode prog_13_method_90_code 107 = .ok (.iload 6, 2) := by decide +kernel
theorem d_Mo_sells_109 : decode prog_13_method_90_code 109 = .ok (.aload_n 0, 1) := by decide +kernel
theorem d_Mo_sells_110 : decode prog_13_method_90_code 110 = .ok (.getfield 99, 3) := by decide +kernel
theorem d_Mo_sells_113 : decode prog_13_method_90_code 113 = .ok (.iload_n 3, 1) := by decide +kernel
theorem d_Mo_sells_114 : decode prog_13_method_90_code 114 = .ok (.iaload, 1) := by decide +kernel
theorem d_Mo_sells_118 : decode prog_13_method_90_code 118 = .ok (.lload 7, 2) := by decide +kernel
theorem d_Mo_sells_120 : decode prog_13_method_90_code 120 = .ok (.aload_n 0, 1) := by decide +kernel
theorem d_Mo_sells_121 : decode prog_13_method_90_code 121 = .ok (.getfield 102, 3) := by decide +kernel
theorem d_Mo_sells_124 : decode prog_13_method_90_code 124 = .ok (.iload_n 3, 1) := by decide +kernel
theorem d_Mo_sells_125 : decode prog_13_method_90_code 125 = .ok (.laload, 1) := by decide +kernel
theorem d_Mo_sells_126 : decode prog_13_method_90_code 126 = .ok (.lcmp, 1) := by decide +kernel
theorem d_Mo_sells_130 : decode prog_13_method_90_code 130 = .ok (.goto 19, 3) := by decide +kernel
theorem d_Mo_sells_127 : decode prog_13_method_90_code 127 = .ok (.ifCond .lt 6, 3) := by decide +kernel
theorem d_Mo_sells_115 : decode prog_13_method_90_code 115 = .ok (.if_icmp .ne 18, 3) := by decide +kernel
theorem d_Mo_sells_104 : decode prog_13_method_90_code 104 = .ok (.if_icmp .lt 45, 3) := by decide +kernel
theorem d_Mo_sells_56 : decode prog_13_method_90_code 56 = .ok (.goto 93, 3) := by decide +kernel
theorem d_Mo_sells_53 : decode prog_13_method_90_code 53 = .ok (.ifCond .ge 6, 3) := by decide +kernel
theorem d_Mo_sells_43 : decode prog_13_method_90_code 43 = .ok (.ifCond .eq 106, 3) := by decide +kernel
theorem d_Mo_sells_133 : decode prog_13_method_90_code 133 = .ok (.aload_n 0, 1) := by decide +kernel
theorem d_Mo_sells_134 : decode prog_13_method_90_code 134 = .ok (.getfield 99, 3) := by decide +kernel
theorem d_Mo_sells_137 : decode prog_13_method_90_code 137 = .ok (.iload_n 3, 1) := by decide +kernel
theorem d_Mo_sells_138 : decode prog_13_method_90_code 138 = .ok (.iload 6, 2) := by decide +kernel
theorem d_Mo_sells_140 : decode prog_13_method_90_code 140 = .ok (.iastore, 1) := by decide +kernel
theorem d_Mo_sells_141 : decode prog_13_method_90_code 141 = .ok (.aload_n 0, 1) := by decide +kernel
theorem d_Mo_sells_142 : decode prog_13_method_90_code 142 = .ok (.getfield 102, 3) := by decide +kernel
theorem d_Mo_sells_145 : decode prog_13_method_90_code 145 = .ok (.iload_n 3, 1) := by decide +kernel
theorem d_Mo_sells_146 : decode prog_13_method_90_code 146 = .ok (.lload 7, 2) := by decide +kernel
theorem d_Mo_sells_148 : decode prog_13_method_90_code 148 = .ok (.lastore, 1) := by decide +kernel
theorem d_Mo_sells_149 : decode prog_13_method_90_code 149 = .ok (.iinc 4 1, 3) := by decide +kernel
theorem d_Mo_sells_152 : decode prog_13_method_90_code 152 = .ok (.goto (-132), 3) := by decide +kernel
theorem d_Mo_sells_24 : decode prog_13_method_90_code 24 = .ok (.if_icmp .ge 131, 3) := by decide +kernel
theorem d_Mo_sells_14 : decode prog_13_method_90_code 14 = .ok (.goto 141, 3) := by decide +kernel
theorem d_Mo_sells_11 : decode prog_13_method_90_code 11 = .ok (.ifCond .eq 6, 3) := by decide +kernel
theorem d_Mo_sells_155 : decode prog_13_method_90_code 155 = .ok (.iinc 3 (-1), 3) := by decide +kernel
theorem d_Mo_sells_158 : decode prog_13_method_90_code 158 = .ok (.goto (-156), 3) := by decide +kernel
theorem d_Mo_sells_3 : decode prog_13_method_90_code 3 = .ok (.ifCond .le 158, 3) := by decide +kernel
def B_Mo_sells_l20 (N : Nat) (a1 : Int32) (a2 : Int32) (a3 : Int32) (rec : Int32 → Mem → Option (Mem)) (x4 : Int32) (σ : Mem) : Option (Mem) :=
  if 8 ≤ x4 then
    (some σ)
  else
    (letv (a3 &&& ((1 <<< (x4 &&& 31)) ^^^ (-1))) fun v35 =>
    bnd1 (f_Mo_has a3 x4) fun r40 =>
    bnd1 ((
      bnd1 ((
        if r40 = 0 then
          (some (0, 0, 0))
        else
          (grd (inb v35 256) <|
          if 0 ≤ (mI σ 95 (v35.toNatClampNeg)) then
            (grd (inb v35 256) <|
            grd (inb x4 8) <|
            letv ((mI σ 95 (v35.toNatClampNeg)) + (mI σ 98 (x4.toNatClampNeg))) fun v74 =>
            grd (inb v35 256) <|
            grd (inb x4 8) <|
            letv ((mL σ 96 (v35.toNatClampNeg)) + ((a2.toInt64) * (mL σ 97 (x4.toNatClampNeg)))) fun v94 =>
            grd (inb a3 256) <|
            if v74 < (mI σ 95 (a3.toNatClampNeg)) then
              (some (0, v74, v94))
            else
              (grd (inb a3 256) <|
              if v74 = (mI σ 95 (a3.toNatClampNeg)) then
                (grd (inb a3 256) <|
                if (lg_cmp v94 (mL σ 96 (a3.toNatClampNeg))) < 0 then
                  (some (1, v74, v94))
                else
                  (some (0, v74, v94)))
              else
                (some (1, v74, v94))))
          else
            (some (0, 0, 0)))) : Option (Nat × Int32 × Int64)) fun s43b =>
      q3 s43b fun t43b y43b_6 y43b_7 =>
      if t43b = 0 then
        (some σ)
      else
      (grd (inb a3 256) <|
      letv (sI σ 95 (a3.toNatClampNeg) y43b_6) fun σ140 =>
      grd (inb a3 256) <|
      letv (sL σ140 96 (a3.toNatClampNeg) y43b_7) fun σ148 =>
      some σ148)) : Option (Mem)) fun σ43_ =>
    letv (x4 + 1) fun v149 =>
    rec v149 σ43_)
def L_Mo_sells_l20 (N : Nat) (a1 : Int32) (a2 : Int32) (a3 : Int32) : Nat → Int32 → Mem → Option (Mem)
  | 0, _, _ => none
  | k + 1, x4, σ => B_Mo_sells_l20 N a1 a2 a3 (L_Mo_sells_l20 N a1 a2 a3 k) x4 σ
set_option maxHeartbeats 4000000 in
set_option maxRecDepth 20000 in
theorem cL_Mo_sells_l20 (Z : ZX) {Y : YX} {Q : State → Prop} {N : Nat} {a1 : Int32} {a2 : Int32} {a3 : Int32} {Good : Mem → Prop} (hE : ∀ (σe : Mem), Good σe → V (mkB Z) Y m_Mo_sells 1 Q 0 0 nC σe 155 [(0, rf Z 65), (1, .int a1), (2, .int a2), (3, .int a3)] []) : ∀ (k : Nat) (x4 : Int32) (σ : Mem) (res : Mem), L_Mo_sells_l20 N a1 a2 a3 k x4 σ = some res → Good res → V (mkB Z) Y m_Mo_sells 1 Q 0 0 nC σ 20 [(0, rf Z 65), (1, .int a1), (2, .int a2), (3, .int a3), (4, .int x4)] [] := by
  intro k
  induction k with
  | zero => intro x4 σ res h; cases h
  | succ k ih =>
    intro x4 σ res h hg
    replace h : B_Mo_sells_l20 N a1 a2 a3 (L_Mo_sells_l20 N a1 a2 a3 k) x4 σ = some res := h
    unfold B_Mo_sells_l20 at h
    refine V.iload d_Mo_sells_20 4 rfl ?_
    refine V.bipush (v := 8) d_Mo_sells_22 (by decide) ?_
    refine V.icmp_ge (tgt := 155) d_Mo_sells_24 (by decide) (fun hc24 => ?_) (fun hc24 => ?_)
    · replace h := ite_t hc24 h
      cases h
      exact V.pick [0, 1, 2, 3] rfl (hE _ hg)
    · replace h := ite_f hc24 h
      refine V.iload_n d_Mo_sells_27 rfl 3 rfl ?_
      refine V.iconst (v := 1) d_Mo_sells_28 (by decide) ?_
      refine V.iload d_Mo_sells_29 4 rfl ?_
      refine V.ishl d_Mo_sells_31 ?_
      refine V.iconst (v := (-1)) d_Mo_sells_32 (by decide) ?_
      refine V.ixor d_Mo_sells_33 ?_
      refine V.iand d_Mo_sells_34 ?_
      obtain ⟨v35, e_v35, h⟩ := letv_e h
      refine V.topI e_v35 ?_
      refine V.istore (lv' := [(5, .int v35), (0, rf Z 65), (1, .int a1), (2, .int a2), (3, .int a3), (4, .int x4)]) d_Mo_sells_35 (by decide) rfl ?_
      refine V.iload_n d_Mo_sells_37 rfl 4 rfl ?_
      refine V.iload d_Mo_sells_38 5 rfl ?_
      obtain ⟨r40, h1, h⟩ := bnd1_e h
      refine V.sI (as := [.int a3, .int x4]) (st := []) (c_Mo_has Z h1) k_Mo_has lk_Mo_177 (by decide) rfl rfl (Nat.le_of_ble_eq_true rfl) d_Mo_sells_40 ?_
      obtain ⟨s43, h1, h⟩ := bnd1_e h
      have J43_149 : ∀ (σ43_ : Mem), s43 = σ43_ → V (mkB Z) Y m_Mo_sells 1 Q 0 0 nC σ43_ 149 [(0, rf Z 65), (1, .int a1), (2, .int a2), (3, .int a3), (4, .int x4)] [] := by
        intro σ43_ he
        rw [he] at h
        obtain ⟨v149, e_v149, h⟩ := letv_e h
        refine V.iinc (v := v149) (lv' := [(4, .int v149), (0, rf Z 65), (1, .int a1), (2, .int a2), (3, .int a3)]) d_Mo_sells_149 4 rfl (by rw [e_v149]; rfl) (by decide) rfl ?_
        refine V.goto (tgt := 20) d_Mo_sells_152 (by decide) ?_
        exact V.pick [1, 2, 3, 4, 0] rfl (ih _ _ _ h hg)
      replace h := h1
      obtain ⟨s43b, h1, h⟩ := bnd1_e h
      have J43b_149 : ∀ (y43b_6 : Int32) (y43b_7 : Int64), s43b = (0, y43b_6, y43b_7) → V (mkB Z) Y m_Mo_sells 1 Q 0 0 nC σ 149 [(0, rf Z 65), (1, .int a1), (2, .int a2), (3, .int a3), (4, .int x4)] [] := by
        intro y43b_6 y43b_7 he
        rw [he] at h
        replace h := q3_e h
        replace h := ite_t rfl h
        exact V.pick [0, 1, 2, 3, 4] rfl (J43_149 _ (Option.some.inj h).symm)
      have J43b_133 : ∀ (y43b_6 : Int32) (y43b_7 : Int64), s43b = (1, y43b_6, y43b_7) → V (mkB Z) Y m_Mo_sells 1 Q 0 0 nC σ 133 [(0, rf Z 65), (1, .int a1), (2, .int a2), (3, .int a3), (4, .int x4), (6, .int y43b_6), (7, .long y43b_7)] [] := by
        intro y43b_6 y43b_7 he
        rw [he] at h
        replace h := q3_e h
        replace h := ite_f (by decide) h
        refine V.aload_n d_Mo_sells_133 rfl 0 rfl ?_
        refine V.getR (r := 95) ok_Mo fl_Mo_99 (by decide) (by decide) ly_65 rfl d_Mo_sells_134 ?_
        refine V.iload_n d_Mo_sells_137 rfl 3 rfl ?_
        refine V.iload d_Mo_sells_138 5 rfl ?_
        obtain ⟨gq, h⟩ := grd_e h
        obtain ⟨σ140, e_σ140, h⟩ := letv_e h
        refine V.wa (by decide) ly_95 (inb_e gq) rfl d_Mo_sells_140 e_σ140 ?_
        refine V.aload_n d_Mo_sells_141 rfl 0 rfl ?_
        refine V.getR (r := 96) ok_Mo fl_Mo_102 (by decide) (by decide) ly_65 rfl d_Mo_sells_142 ?_
        refine V.iload_n d_Mo_sells_145 rfl 3 rfl ?_
        refine V.lload d_Mo_sells_146 6 rfl ?_
        obtain ⟨gq, h⟩ := grd_e h
        obtain ⟨σ148, e_σ148, h⟩ := letv_e h
        refine V.wl (by decide) ly_96 (inb_e gq) rfl d_Mo_sells_148 e_σ148 ?_
        exact V.pick [0, 1, 2, 3, 4] rfl (J43_149 _ (Option.some.inj h).symm)
      replace h := h1
      refine V.if_eq (tgt := 149) d_Mo_sells_43 (by decide) (fun hc43 => ?_) (fun hc43 => ?_)
      · replace h := ite_t hc43 h
        exact V.pick [1, 2, 3, 4, 5] rfl (J43b_149 _ _ (Option.some.inj h).symm)
      · replace h := ite_f hc43 h
        refine V.aload_n d_Mo_sells_46 rfl 1 rfl ?_
        refine V.getR (r := 95) ok_Mo fl_Mo_99 (by decide) (by decide) ly_65 rfl d_Mo_sells_47 ?_
        refine V.iload d_Mo_sells_50 0 rfl ?_
        obtain ⟨gq, h⟩ := grd_e h
        refine V.ra (by decide) ly_95 (inb_e gq) rfl d_Mo_sells_52 ?_
        refine V.if_ge (tgt := 59) d_Mo_sells_53 (by decide) (fun hc53 => ?_) (fun hc53 => ?_)
        · replace h := ite_t hc53 h
          refine V.aload_n d_Mo_sells_59 rfl 1 rfl ?_
          refine V.getR (r := 95) ok_Mo fl_Mo_99 (by decide) (by decide) ly_65 rfl d_Mo_sells_60 ?_
          refine V.iload d_Mo_sells_63 0 rfl ?_
          obtain ⟨gq, h⟩ := grd_e h
          refine V.ra (by decide) ly_95 (inb_e gq) rfl d_Mo_sells_65 ?_
          refine V.aload_n d_Mo_sells_66 rfl 1 rfl ?_
          refine V.getR (r := 98) ok_Mo fl_Mo_109 (by decide) (by decide) ly_65 rfl d_Mo_sells_67 ?_
          refine V.iload d_Mo_sells_70 5 rfl ?_
          obtain ⟨gq, h⟩ := grd_e h
          refine V.ra (by decide) ly_98 (inb_e gq) rfl d_Mo_sells_72 ?_
          refine V.iadd d_Mo_sells_73 ?_
          obtain ⟨v74, e_v74, h⟩ := letv_e h
          refine V.topI e_v74 ?_
          refine V.istore (lv' := [(6, .int v74), (5, .int v35), (0, rf Z 65), (1, .int a1), (2, .int a2), (3, .int a3), (4, .int x4)]) d_Mo_sells_74 (by decide) rfl ?_
          refine V.aload_n d_Mo_sells_76 rfl 2 rfl ?_
          refine V.getR (r := 96) ok_Mo fl_Mo_102 (by decide) (by decide) ly_65 rfl d_Mo_sells_77 ?_
          refine V.iload d_Mo_sells_80 1 rfl ?_
          obtain ⟨gq, h⟩ := grd_e h
          refine V.rl (by decide) ly_96 (inb_e gq) rfl d_Mo_sells_82 ?_
          refine V.iload_n d_Mo_sells_83 rfl 4 rfl ?_
          refine V.i2l d_Mo_sells_84 ?_
          refine V.aload_n d_Mo_sells_85 rfl 2 rfl ?_
          refine V.getR (r := 97) ok_Mo fl_Mo_106 (by decide) (by decide) ly_65 rfl d_Mo_sells_86 ?_
          refine V.iload d_Mo_sells_89 6 rfl ?_
          obtain ⟨gq, h⟩ := grd_e h
          refine V.rl (by decide) ly_97 (inb_e gq) rfl d_Mo_sells_91 ?_
          refine V.lmul d_Mo_sells_92 ?_
          refine V.ladd d_Mo_sells_93 ?_
          obtain ⟨v94, e_v94, h⟩ := letv_e h
          refine V.topL e_v94 ?_
          refine V.lstore (lv' := [(7, .long v94), (6, .int v74), (5, .int v35), (0, rf Z 65), (1, .int a1), (2, .int a2), (3, .int a3), (4, .int x4)]) d_Mo_sells_94 (by decide) rfl ?_
          refine V.iload d_Mo_sells_96 1 rfl ?_
          refine V.aload_n d_Mo_sells_98 rfl 3 rfl ?_
          refine V.getR (r := 95) ok_Mo fl_Mo_99 (by decide) (by decide) ly_65 rfl d_Mo_sells_99 ?_
          refine V.iload_n d_Mo_sells_102 rfl 6 rfl ?_
          obtain ⟨gq, h⟩ := grd_e h
          refine V.ra (by decide) ly_95 (inb_e gq) rfl d_Mo_sells_103 ?_
          refine V.icmp_lt (tgt := 149) d_Mo_sells_104 (by decide) (fun hc104 => ?_) (fun hc104 => ?_)
          · replace h := ite_t hc104 h
            exact V.pick [3, 4, 5, 6, 7] rfl (J43b_149 _ _ (Option.some.inj h).symm)
          · replace h := ite_f hc104 h
            refine V.iload d_Mo_sells_107 1 rfl ?_
            refine V.aload_n d_Mo_sells_109 rfl 3 rfl ?_
            refine V.getR (r := 95) ok_Mo fl_Mo_99 (by decide) (by decide) ly_65 rfl d_Mo_sells_110 ?_
            refine V.iload_n d_Mo_sells_113 rfl 6 rfl ?_
            obtain ⟨gq, h⟩ := grd_e h
            refine V.ra (by decide) ly_95 (inb_e gq) rfl d_Mo_sells_114 ?_
            refine V.icmp_ne (tgt := 133) d_Mo_sells_115 (by decide) (fun hc115 => ?_) (fun hc115 => ?_)
            · replace h := ite_f hc115 h
              exact V.pick [3, 4, 5, 6, 7, 1, 0] rfl (J43b_133 _ _ (Option.some.inj h).symm)
            · replace h := ite_t hc115 h
              refine V.lload d_Mo_sells_118 0 rfl ?_
              refine V.aload_n d_Mo_sells_120 rfl 3 rfl ?_
              refine V.getR (r := 96) ok_Mo fl_Mo_102 (by decide) (by decide) ly_65 rfl d_Mo_sells_121 ?_
              refine V.iload_n d_Mo_sells_124 rfl 6 rfl ?_
              obtain ⟨gq, h⟩ := grd_e h
              refine V.rl (by decide) ly_96 (inb_e gq) rfl d_Mo_sells_125 ?_
              refine V.lcmp d_Mo_sells_126 ?_
              refine V.if_lt (tgt := 133) d_Mo_sells_127 (by decide) (fun hc127 => ?_) (fun hc127 => ?_)
              · replace h := ite_t hc127 h
                exact V.pick [3, 4, 5, 6, 7, 1, 0] rfl (J43b_133 _ _ (Option.some.inj h).symm)
              · replace h := ite_f hc127 h
                refine V.goto (tgt := 149) d_Mo_sells_130 (by decide) ?_
                exact V.pick [3, 4, 5, 6, 7] rfl (J43b_149 _ _ (Option.some.inj h).symm)
        · replace h := ite_f hc53 h
          refine V.goto (tgt := 149) d_Mo_sells_56 (by decide) ?_
          exact V.pick [1, 2, 3, 4, 5] rfl (J43b_149 _ _ (Option.some.inj h).symm)
def B_Mo_sells_l2 (N : Nat) (a1 : Int32) (a2 : Int32) (rec : Int32 → Mem → Option (Mem)) (x3 : Int32) (σ : Mem) : Option (Mem) :=
  if x3 ≤ 0 then
    (some σ)
  else
    (bnd1 ((
      if (x3 &&& (a1 ^^^ (-1))) = 0 then
        (bnd1 (L_Mo_sells_l20 N a1 a2 x3 N 0 σ) fun σ20_ =>
        some σ20_)
      else
        (some σ)) : Option (Mem)) fun σ11_ =>
    letv (x3 + (-1)) fun v155 =>
    rec v155 σ11_)
def L_Mo_sells_l2 (N : Nat) (a1 : Int32) (a2 : Int32) : Nat → Int32 → Mem → Option (Mem)
  | 0, _, _ => none
  | k + 1, x3, σ => B_Mo_sells_l2 N a1 a2 (L_Mo_sells_l2 N a1 a2 k) x3 σ
set_option maxHeartbeats 4000000 in
set_option maxRecDepth 20000 in
theorem cL_Mo_sells_l2 (Z : ZX) {Y : YX} {post : Option Value → Mem → Prop} {N : Nat} {a1 : Int32} {a2 : Int32} {Good : Mem → Prop} (hR : ∀ (σr : Mem), Good σr → post none σr) : ∀ (k : Nat) (x3 : Int32) (σ : Mem) (res : Mem), L_Mo_sells_l2 N a1 a2 k x3 σ = some res → Good res → V (mkB Z) Y m_Mo_sells 1 (QP (mkB Z) Y nC 0 0 post) 0 0 nC σ 2 [(0, rf Z 65), (1, .int a1), (2, .int a2), (3, .int x3)] [] := by
  intro k
  induction k with
  | zero => intro x3 σ res h; cases h
  | succ k ih =>
    intro x3 σ res h hg
    replace h : B_Mo_sells_l2 N a1 a2 (L_Mo_sells_l2 N a1 a2 k) x3 σ = some res := h
    unfold B_Mo_sells_l2 at h
    refine V.iload_n d_Mo_sells_2 rfl 3 rfl ?_
    refine V.if_le (tgt := 161) d_Mo_sells_3 (by decide) (fun hc3 => ?_) (fun hc3 => ?_)
    · replace h := ite_t hc3 h
      cases h
      exact V.vret rfl d_Mo_sells_161 (hR _ hg)
    · replace h := ite_f hc3 h
      refine V.iload_n d_Mo_sells_6 rfl 3 rfl ?_
      refine V.iload_n d_Mo_sells_7 rfl 1 rfl ?_
      refine V.iconst (v := (-1)) d_Mo_sells_8 (by decide) ?_
      refine V.ixor d_Mo_sells_9 ?_
      refine V.iand d_Mo_sells_10 ?_
      obtain ⟨s11, h1, h⟩ := bnd1_e h
      have J11_155 : ∀ (σ11_ : Mem), s11 = σ11_ → V (mkB Z) Y m_Mo_sells 1 (QP (mkB Z) Y nC 0 0 post) 0 0 nC σ11_ 155 [(0, rf Z 65), (1, .int a1), (2, .int a2), (3, .int x3)] [] := by
        intro σ11_ he
        rw [he] at h
        obtain ⟨v155, e_v155, h⟩ := letv_e h
        refine V.iinc (v := v155) (lv' := [(3, .int v155), (0, rf Z 65), (1, .int a1), (2, .int a2)]) d_Mo_sells_155 3 rfl (by rw [e_v155]; rfl) (by decide) rfl ?_
        refine V.goto (tgt := 2) d_Mo_sells_158 (by decide) ?_
        exact V.pick [1, 2, 3, 0] rfl (ih _ _ _ h hg)
      replace h := h1
      refine V.if_eq (tgt := 17) d_Mo_sells_11 (by decide) (fun hc11 => ?_) (fun hc11 => ?_)
      · replace h := ite_t hc11 h
        refine V.iconst (v := 0) d_Mo_sells_17 (by decide) ?_
        refine V.istore (lv' := [(4, .int 0), (0, rf Z 65), (1, .int a1), (2, .int a2), (3, .int x3)]) d_Mo_sells_18 (by decide) rfl ?_
        obtain ⟨x20_, h1, h⟩ := bnd1_e h
        refine V.pick [1, 2, 3, 4, 0] rfl (cL_Mo_sells_l20 Z (Good := fun z => x20_ = z) (fun σ20_ he => ?_) N _ _ _ h1 rfl)
        · rw [he] at h
          exact V.pick [0, 1, 2, 3] rfl (J11_155 _ (Option.some.inj h).symm)
      · replace h := ite_f hc11 h
        refine V.goto (tgt := 155) d_Mo_sells_14 (by decide) ?_
        exact V.pick [0, 1, 2, 3] rfl (J11_155 _ (Option.some.inj h).symm)
def f_Mo_sells (N : Nat) (σ : Mem) (a1 : Int32) (a2 : Int32) : Option (Mem) :=
  L_Mo_sells_l2 N a1 a2 N a1 σ
set_option maxHeartbeats 4000000 in
set_option maxRecDepth 20000 in
theorem c_Mo_sells (Z : ZX) {N : Nat} {σ : Mem} {a1 : Int32} {a2 : Int32} {σ' : Mem} (h : f_Mo_sells N σ a1 a2 = some σ') : CN Z 1 m_Mo_sells [rf Z 65, .int a1, .int a2] σ σ' := by
  refine Ct.of (by decide +kernel) (Nat.le_of_ble_eq_true rfl) (fun Y => ?_)
  show V (mkB Z) Y m_Mo_sells 1 (QP (mkB Z) Y nC 0 0 (fun v t => v = none ∧ t = σ')) 0 0 nC σ 0 [(0, rf Z 65), (1, .int a1), (2, .int a2)] []
  unfold f_Mo_sells at h
  refine V.iload_n d_Mo_sells_0 rfl 1 rfl ?_
  refine V.istore_n (lv' := [(3, .int a1), (0, rf Z 65), (1, .int a1), (2, .int a2)]) d_Mo_sells_1 rfl (by decide) rfl ?_
  refine V.pick [1, 2, 3, 0] rfl (cL_Mo_sells_l2 Z (Good := fun z => z = _) (fun r2m he => ?_) N _ _ _ h rfl)
  · cases he
    exact ⟨rfl, rfl⟩
abbrev m_Mo_keyOf : MI := (⟨"ShadeTownModel", "keyOf", "(II)J"⟩, prog_13_method_91_code, 6, (Option.some Jvm.ClassFile.FieldType.long))
theorem d_Mo_keyOf_0 : decode prog_13_method_91_code 0 = .ok (.aload_n 0, 1) := by decide +kernel
theorem d_Mo_keyOf_1 : decode prog_13_method_91_code 1 = .ok (.getfield 102, 3) := by decide +kernel
theorem d_Mo_keyOf_4 : decode prog_13_method_91_code 4 = .ok (.iload_n 2, 1) := by decide +kernel
theorem d_Mo_keyOf_5 : decode prog_13_method_91_code 5 = .ok (.laload, 1) := by decide +kernel
theorem d_Mo_keyOf_6 : decode prog_13_method_91_code 6 = .ok (.lstore_n 3, 1) := by decide +kernel
theorem d_Mo_keyOf_7 : decode prog_13_method_91_code 7 = .ok (.iconst 0, 1) := by decide +kernel
theorem d_Mo_keyOf_8 : decode prog_13_method_91_code 8 = .ok (.istore 5, 2) := by decide +kernel
theorem d_Mo_keyOf_10 : decode prog_13_method_91_code 10 = .ok (.iload 5, 2) := by decide +kernel
theorem d_Mo_keyOf_12 : decode prog_13_method_91_code 12 = .ok (.bipush 8, 2) := by decide +kernel
theorem d_Mo_keyOf_50 : decode prog_13_method_91_code 50 = .ok (.lload_n 3, 1) := by decide +kernel
theorem d_Mo_keyOf_51 : decode prog_13_method_91_code 51 = .ok (.lreturn, 1) := by decide +kernel
theorem d_Mo_keyOf_17 : decode prog_13_method_91_code 17 = .ok (.iload_n 1, 1) := by decide +kernel
theorem d_Mo_keyOf_18 : decode prog_13_method_91_code 18 = .ok (.iload_n 2, 1) := by decide +kernel
theorem d_Mo_keyOf_19 : decode prog_13_method_91_code 19 = .ok (.iconst (-1), 1) := by decide +kernel
theorem d_Mo_keyOf_20 : decode prog_13_method_91_code 20 = .ok (.ixor, 1) := by decide +kernel
theorem d_Mo_keyOf_21 : decode prog_13_method_91_code 21 = .ok (.iand, 1) := by decide +kernel
theorem d_Mo_keyOf_22 : decode prog_13_method_91_code 22 = .ok (.iload 5, 2) := by decide +kernel
theorem d_Mo_keyOf_24 : decode prog_13_method_91_code 24 = .ok (.invokestatic 177, 3) := by decide +kernel
theorem d_Mo_keyOf_30 : decode prog_13_method_91_code 30 = .ok (.lload_n 3, 1) := by decide +kernel
theorem kl_Mo_453 : Cond.constantLong "ShadeTownModel" 453 (144) ∈ tblG := atG 1926 (by decide +kernel) rfl
theorem d_Mo_keyOf_31 : decode prog_13_method_91_code 31 = .ok (.ldc2_w 453, 3) := by decide +kernel
theorem d_Mo_keyOf_34 : decode prog_13_method_91_code 34 = .ok (.aload_n 0, 1) := by decide +kernel
theorem d_Mo_keyOf_35 : decode prog_13_method_91_code 35 = .ok (.getfield 106, 3) := by decide +kernel
theorem d_Mo_keyOf_38 : decode prog_13_method_91_code 38 = .ok (.iload 5, 2) := by decide +kernel
theorem d_Mo_keyOf_40 : decode prog_13_method_91_code 40 = .ok (.laload, 1) := by decide +kernel
theorem d_Mo_keyOf_41 : decode prog_13_method_91_code 41 = .ok (.lmul, 1) := by decide +kernel
theorem d_Mo_keyOf_42 : decode prog_13_method_91_code 42 = .ok (.ladd, 1) := by decide +kernel
theorem d_Mo_keyOf_43 : decode prog_13_method_91_code 43 = .ok (.lstore_n 3, 1) := by decide +kernel
theorem d_Mo_keyOf_27 : decode prog_13_method_91_code 27 = .ok (.ifCond .eq 17, 3) := by decide +kernel
theorem d_Mo_keyOf_44 : decode prog_13_method_91_code 44 = .ok (.iinc 5 1, 3) := by decide +kernel
theorem d_Mo_keyOf_47 : decode prog_13_method_91_code 47 = .ok (.goto (-37), 3) := by decide +kernel
theorem d_Mo_keyOf_14 : decode prog_13_method_91_code 14 = .ok (.if_icmp .ge 36, 3) := by decide +kernel
def B_Mo_keyOf_l10 (N : Nat) (a1 : Int32) (a2 : Int32) (σ : Mem) (rec : Int64 → Int32 → Option (Int64)) (x3 : Int64) (x5 : Int32) : Option (Int64) :=
  if 8 ≤ x5 then
    (some x3)
  else
    (bnd1 (f_Mo_has (a1 &&& (a2 ^^^ (-1))) x5) fun r24 =>
    bnd1 ((
      if r24 = 0 then
        (some x3)
      else
        (grd (inb x5 8) <|
        letv (x3 + (144 * (mL σ 97 (x5.toNatClampNeg)))) fun v43 =>
        some v43)) : Option (Int64)) fun y27_3 =>
    letv (x5 + 1) fun v44 =>
    rec y27_3 v44)
def L_Mo_keyOf_l10 (N : Nat) (a1 : Int32) (a2 : Int32) (σ : Mem) : Nat → Int64 → Int32 → Option (Int64)
  | 0, _, _ => none
  | k + 1, x3, x5 => B_Mo_keyOf_l10 N a1 a2 σ (L_Mo_keyOf_l10 N a1 a2 σ k) x3 x5
set_option maxHeartbeats 4000000 in
set_option maxRecDepth 20000 in
theorem cL_Mo_keyOf_l10 (Z : ZX) {Y : YX} {post : Option Value → Mem → Prop} {N : Nat} {a1 : Int32} {a2 : Int32} {σ : Mem} {Good : Int64 → Prop} (hR : ∀ (v : Int64), Good v → post (some (.long v)) σ) : ∀ (k : Nat) (x3 : Int64) (x5 : Int32) (res : Int64), L_Mo_keyOf_l10 N a1 a2 σ k x3 x5 = some res → Good res → V (mkB Z) Y m_Mo_keyOf 1 (QP (mkB Z) Y nC 0 0 post) 0 0 nC σ 10 [(0, rf Z 65), (1, .int a1), (2, .int a2), (3, .long x3), (5, .int x5)] [] := by
  intro k
  induction k with
  | zero => intro x3 x5 res h; cases h
  | succ k ih =>
    intro x3 x5 res h hg
    replace h : B_Mo_keyOf_l10 N a1 a2 σ (L_Mo_keyOf_l10 N a1 a2 σ k) x3 x5 = some res := h
    unfold B_Mo_keyOf_l10 at h
    refine V.iload d_Mo_keyOf_10 4 rfl ?_
    refine V.bipush (v := 8) d_Mo_keyOf_12 (by decide) ?_
    refine V.icmp_ge (tgt := 50) d_Mo_keyOf_14 (by decide) (fun hc14 => ?_) (fun hc14 => ?_)
    · replace h := ite_t hc14 h
      refine V.lload_n d_Mo_keyOf_50 rfl 3 rfl ?_
      cases h
      exact V.lret rfl d_Mo_keyOf_51 (hR _ hg)
    · replace h := ite_f hc14 h
      refine V.iload_n d_Mo_keyOf_17 rfl 1 rfl ?_
      refine V.iload_n d_Mo_keyOf_18 rfl 2 rfl ?_
      refine V.iconst (v := (-1)) d_Mo_keyOf_19 (by decide) ?_
      refine V.ixor d_Mo_keyOf_20 ?_
      refine V.iand d_Mo_keyOf_21 ?_
      refine V.iload d_Mo_keyOf_22 4 rfl ?_
      obtain ⟨r24, h1, h⟩ := bnd1_e h
      refine V.sI (as := [.int (a1 &&& (a2 ^^^ (-1))), .int x5]) (st := []) (c_Mo_has Z h1) k_Mo_has lk_Mo_177 (by decide) rfl rfl (Nat.le_of_ble_eq_true rfl) d_Mo_keyOf_24 ?_
      obtain ⟨s27, h1, h⟩ := bnd1_e h
      have J27_44 : ∀ (y27_3 : Int64), s27 = y27_3 → V (mkB Z) Y m_Mo_keyOf 1 (QP (mkB Z) Y nC 0 0 post) 0 0 nC σ 44 [(0, rf Z 65), (1, .int a1), (2, .int a2), (3, .long y27_3), (5, .int x5)] [] := by
        intro y27_3 he
        rw [he] at h
        obtain ⟨v44, e_v44, h⟩ := letv_e h
        refine V.iinc (v := v44) (lv' := [(5, .int v44), (0, rf Z 65), (1, .int a1), (2, .int a2), (3, .long y27_3)]) d_Mo_keyOf_44 4 rfl (by rw [e_v44]; rfl) (by decide) rfl ?_
        refine V.goto (tgt := 10) d_Mo_keyOf_47 (by decide) ?_
        exact V.pick [1, 2, 3, 4, 0] rfl (ih _ _ _ h hg)
      replace h := h1
      refine V.if_eq (tgt := 44) d_Mo_keyOf_27 (by decide) (fun hc27 => ?_) (fun hc27 => ?_)
      · replace h := ite_t hc27 h
        exact V.pick [0, 1, 2, 3, 4] rfl (J27_44 _ (Option.some.inj h).symm)
      · replace h := ite_f hc27 h
        refine V.lload_n d_Mo_keyOf_30 rfl 3 rfl ?_
        refine V.ldc2 (v := 144) kl_Mo_453 d_Mo_keyOf_31 ?_
        refine V.aload_n d_Mo_keyOf_34 rfl 0 rfl ?_
        refine V.getR (r := 97) ok_Mo fl_Mo_106 (by decide) (by decide) ly_65 rfl d_Mo_keyOf_35 ?_
        refine V.iload d_Mo_keyOf_38 4 rfl ?_
        obtain ⟨gq, h⟩ := grd_e h
        refine V.rl (by decide) ly_97 (inb_e gq) rfl d_Mo_keyOf_40 ?_
        refine V.lmul d_Mo_keyOf_41 ?_
        refine V.ladd d_Mo_keyOf_42 ?_
        obtain ⟨v43, e_v43, h⟩ := letv_e h
        refine V.topL e_v43 ?_
        refine V.lstore_n (lv' := [(3, .long v43), (0, rf Z 65), (1, .int a1), (2, .int a2), (5, .int x5)]) d_Mo_keyOf_43 rfl (by decide) rfl ?_
        exact V.pick [1, 2, 3, 0, 4] rfl (J27_44 _ (Option.some.inj h).symm)
def f_Mo_keyOf (N : Nat) (σ : Mem) (a1 : Int32) (a2 : Int32) : Option (Int64) :=
  grd (inb a2 256) <|
  letv (mL σ 96 (a2.toNatClampNeg)) fun v6 =>
  L_Mo_keyOf_l10 N a1 a2 σ N v6 0
set_option maxHeartbeats 4000000 in
set_option maxRecDepth 20000 in
theorem c_Mo_keyOf (Z : ZX) {N : Nat} {σ : Mem} {a1 : Int32} {a2 : Int32} {r : Int64} (h : f_Mo_keyOf N σ a1 a2 = some r) : CJ Z 1 m_Mo_keyOf [rf Z 65, .int a1, .int a2] σ r σ := by
  refine Ct.of (by decide +kernel) (Nat.le_of_ble_eq_true rfl) (fun Y => ?_)
  show V (mkB Z) Y m_Mo_keyOf 1 (QP (mkB Z) Y nC 0 0 (fun v t => v = some (.long r) ∧ t = σ)) 0 0 nC σ 0 [(0, rf Z 65), (1, .int a1), (2, .int a2)] []
  unfold f_Mo_keyOf at h
  refine V.aload_n d_Mo_keyOf_0 rfl 0 rfl ?_
  refine V.getR (r := 96) ok_Mo fl_Mo_102 (by decide) (by decide) ly_65 rfl d_Mo_keyOf_1 ?_
  refine V.iload_n d_Mo_keyOf_4 rfl 2 rfl ?_
  obtain ⟨gq, h⟩ := grd_e h
  refine V.rl (by decide) ly_96 (inb_e gq) rfl d_Mo_keyOf_5 ?_
  obtain ⟨v6, e_v6, h⟩ := letv_e h
  refine V.topL e_v6 ?_
  refine V.lstore_n (lv' := [(3, .long v6), (0, rf Z 65), (1, .int a1), (2, .int a2)]) d_Mo_keyOf_6 rfl (by decide) rfl ?_
  refine V.iconst (v := 0) d_Mo_keyOf_7 (by decide) ?_
  refine V.istore (lv' := [(5, .int 0), (3, .long v6), (0, rf Z 65), (1, .int a1), (2, .int a2)]) d_Mo_keyOf_8 (by decide) rfl ?_
  refine V.pick [2, 3, 4, 1, 0] rfl (cL_Mo_keyOf_l10 Z (Good := fun z => z = _) (fun r10v he => ?_) N _ _ _ h rfl)
  · cases he
    exact ⟨rfl, rfl⟩
