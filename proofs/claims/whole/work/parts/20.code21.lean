abbrev m_Mo_noon : MI := (⟨"ShadeTownModel", "noon", "(II)I"⟩, prog_13_method_111_code, 8, (Option.some Jvm.ClassFile.FieldType.int))
theorem d_Mo_noon_0 : decode prog_13_method_111_code 0 = .ok (.iload_n 1, 1) := by decide +kernel
theorem d_Mo_noon_1 : decode prog_13_method_111_code 1 = .ok (.iconst 1, 1) := by decide +kernel
theorem d_Mo_noon_2 : decode prog_13_method_111_code 2 = .ok (.bipush 60, 2) := by decide +kernel
theorem d_Mo_noon_4 : decode prog_13_method_111_code 4 = .ok (.invokestatic 188, 3) := by decide +kernel
theorem d_Mo_noon_18 : decode prog_13_method_111_code 18 = .ok (.iconst (-1), 1) := by decide +kernel
theorem d_Mo_noon_19 : decode prog_13_method_111_code 19 = .ok (.ireturn, 1) := by decide +kernel
theorem d_Mo_noon_10 : decode prog_13_method_111_code 10 = .ok (.aload_n 0, 1) := by decide +kernel
theorem d_Mo_noon_11 : decode prog_13_method_111_code 11 = .ok (.iload_n 2, 1) := by decide +kernel
theorem d_Mo_noon_12 : decode prog_13_method_111_code 12 = .ok (.invokevirtual 447, 3) := by decide +kernel
theorem d_Mo_noon_20 : decode prog_13_method_111_code 20 = .ok (.aload_n 0, 1) := by decide +kernel
theorem d_Mo_noon_21 : decode prog_13_method_111_code 21 = .ok (.invokevirtual 370, 3) := by decide +kernel
theorem d_Mo_noon_24 : decode prog_13_method_111_code 24 = .ok (.iconst 0, 1) := by decide +kernel
theorem d_Mo_noon_25 : decode prog_13_method_111_code 25 = .ok (.istore_n 3, 1) := by decide +kernel
theorem d_Mo_noon_26 : decode prog_13_method_111_code 26 = .ok (.iconst 0, 1) := by decide +kernel
theorem d_Mo_noon_27 : decode prog_13_method_111_code 27 = .ok (.istore 4, 2) := by decide +kernel
theorem d_Mo_noon_29 : decode prog_13_method_111_code 29 = .ok (.iload 4, 2) := by decide +kernel
theorem d_Mo_noon_31 : decode prog_13_method_111_code 31 = .ok (.sipush 144, 3) := by decide +kernel
theorem d_Mo_noon_37 : decode prog_13_method_111_code 37 = .ok (.iload_n 3, 1) := by decide +kernel
theorem d_Mo_noon_38 : decode prog_13_method_111_code 38 = .ok (.aload_n 0, 1) := by decide +kernel
theorem d_Mo_noon_39 : decode prog_13_method_111_code 39 = .ok (.bipush 12, 2) := by decide +kernel
theorem d_Mo_noon_41 : decode prog_13_method_111_code 41 = .ok (.iload 4, 2) := by decide +kernel
theorem d_Mo_noon_43 : decode prog_13_method_111_code 43 = .ok (.invokevirtual 373, 3) := by decide +kernel
theorem d_Mo_noon_53 : decode prog_13_method_111_code 53 = .ok (.iconst 0, 1) := by decide +kernel
theorem d_Mo_noon_49 : decode prog_13_method_111_code 49 = .ok (.iconst 1, 1) := by decide +kernel
theorem d_Mo_noon_50 : decode prog_13_method_111_code 50 = .ok (.goto 4, 3) := by decide +kernel
theorem d_Mo_noon_46 : decode prog_13_method_111_code 46 = .ok (.ifCond .eq 7, 3) := by decide +kernel
theorem d_Mo_noon_54 : decode prog_13_method_111_code 54 = .ok (.iadd, 1) := by decide +kernel
theorem d_Mo_noon_55 : decode prog_13_method_111_code 55 = .ok (.istore_n 3, 1) := by decide +kernel
theorem d_Mo_noon_56 : decode prog_13_method_111_code 56 = .ok (.iinc 4 1, 3) := by decide +kernel
theorem d_Mo_noon_59 : decode prog_13_method_111_code 59 = .ok (.goto (-30), 3) := by decide +kernel
theorem d_Mo_noon_34 : decode prog_13_method_111_code 34 = .ok (.if_icmp .ge 28, 3) := by decide +kernel
theorem d_Mo_noon_62 : decode prog_13_method_111_code 62 = .ok (.bipush 8, 2) := by decide +kernel
theorem d_Mo_noon_64 : decode prog_13_method_111_code 64 = .ok (.iload_n 3, 1) := by decide +kernel
theorem d_Mo_noon_65 : decode prog_13_method_111_code 65 = .ok (.invokestatic 342, 3) := by decide +kernel
theorem d_Mo_noon_68 : decode prog_13_method_111_code 68 = .ok (.istore_n 3, 1) := by decide +kernel
theorem d_Mo_noon_69 : decode prog_13_method_111_code 69 = .ok (.iconst 0, 1) := by decide +kernel
theorem d_Mo_noon_70 : decode prog_13_method_111_code 70 = .ok (.istore 4, 2) := by decide +kernel
theorem d_Mo_noon_72 : decode prog_13_method_111_code 72 = .ok (.iload 4, 2) := by decide +kernel
theorem d_Mo_noon_74 : decode prog_13_method_111_code 74 = .ok (.bipush 8, 2) := by decide +kernel
theorem d_Mo_noon_79 : decode prog_13_method_111_code 79 = .ok (.aload_n 0, 1) := by decide +kernel
theorem d_Mo_noon_80 : decode prog_13_method_111_code 80 = .ok (.getfield 139, 3) := by decide +kernel
theorem d_Mo_noon_83 : decode prog_13_method_111_code 83 = .ok (.iload 4, 2) := by decide +kernel
theorem d_Mo_noon_85 : decode prog_13_method_111_code 85 = .ok (.iconst 0, 1) := by decide +kernel
theorem d_Mo_noon_86 : decode prog_13_method_111_code 86 = .ok (.iastore, 1) := by decide +kernel
theorem d_Mo_noon_87 : decode prog_13_method_111_code 87 = .ok (.iinc 4 1, 3) := by decide +kernel
theorem d_Mo_noon_90 : decode prog_13_method_111_code 90 = .ok (.goto (-18), 3) := by decide +kernel
theorem d_Mo_noon_76 : decode prog_13_method_111_code 76 = .ok (.if_icmp .ge 17, 3) := by decide +kernel
theorem d_Mo_noon_93 : decode prog_13_method_111_code 93 = .ok (.iconst 0, 1) := by decide +kernel
theorem d_Mo_noon_94 : decode prog_13_method_111_code 94 = .ok (.istore 4, 2) := by decide +kernel
theorem d_Mo_noon_96 : decode prog_13_method_111_code 96 = .ok (.iload 4, 2) := by decide +kernel
theorem d_Mo_noon_98 : decode prog_13_method_111_code 98 = .ok (.iload_n 1, 1) := by decide +kernel
theorem d_Mo_noon_190 : decode prog_13_method_111_code 190 = .ok (.aload_n 0, 1) := by decide +kernel
theorem d_Mo_noon_191 : decode prog_13_method_111_code 191 = .ok (.getfield 139, 3) := by decide +kernel
theorem d_Mo_noon_194 : decode prog_13_method_111_code 194 = .ok (.iload_n 2, 1) := by decide +kernel
theorem d_Mo_noon_195 : decode prog_13_method_111_code 195 = .ok (.iaload, 1) := by decide +kernel
theorem d_Mo_noon_196 : decode prog_13_method_111_code 196 = .ok (.ireturn, 1) := by decide +kernel
theorem d_Mo_noon_102 : decode prog_13_method_111_code 102 = .ok (.iconst 0, 1) := by decide +kernel
theorem d_Mo_noon_103 : decode prog_13_method_111_code 103 = .ok (.istore 5, 2) := by decide +kernel
theorem d_Mo_noon_105 : decode prog_13_method_111_code 105 = .ok (.iconst 0, 1) := by decide +kernel
theorem d_Mo_noon_106 : decode prog_13_method_111_code 106 = .ok (.istore 6, 2) := by decide +kernel
theorem d_Mo_noon_108 : decode prog_13_method_111_code 108 = .ok (.iload 6, 2) := by decide +kernel
theorem d_Mo_noon_110 : decode prog_13_method_111_code 110 = .ok (.iload_n 3, 1) := by decide +kernel
theorem d_Mo_noon_114 : decode prog_13_method_111_code 114 = .ok (.aload_n 0, 1) := by decide +kernel
theorem d_Mo_noon_115 : decode prog_13_method_111_code 115 = .ok (.iload 5, 2) := by decide +kernel
theorem d_Mo_noon_117 : decode prog_13_method_111_code 117 = .ok (.invokevirtual 509, 3) := by decide +kernel
theorem k_Mo_fewestOf : MOk m_Mo_fewestOf 1 ∧ IOk m_Mo_fewestOf := ⟨⟨atG 1999 (by decide +kernel) rfl, atG 122 (by decide +kernel) rfl, ⟨by decide, by decide⟩, by decide +kernel, by decide⟩, atG 1998 (by decide +kernel) rfl, atG 105 (by decide +kernel) rfl⟩
theorem lk_Mo_509 : Cond.methodLink "ShadeTownModel" 509 ⟨"ShadeTownModel", "fewestOf", "(I)I"⟩ ∈ tblG := atG 1996 (by decide +kernel) rfl
theorem d_Mo_noon_120 : decode prog_13_method_111_code 120 = .ok (.istore 7, 2) := by decide +kernel
theorem d_Mo_noon_122 : decode prog_13_method_111_code 122 = .ok (.iload 7, 2) := by decide +kernel
theorem d_Mo_noon_124 : decode prog_13_method_111_code 124 = .ok (.iconst (-1), 1) := by decide +kernel
theorem d_Mo_noon_131 : decode prog_13_method_111_code 131 = .ok (.iload 5, 2) := by decide +kernel
theorem d_Mo_noon_133 : decode prog_13_method_111_code 133 = .ok (.iconst 1, 1) := by decide +kernel
theorem d_Mo_noon_134 : decode prog_13_method_111_code 134 = .ok (.iload 7, 2) := by decide +kernel
theorem d_Mo_noon_136 : decode prog_13_method_111_code 136 = .ok (.ishl, 1) := by decide +kernel
theorem d_Mo_noon_137 : decode prog_13_method_111_code 137 = .ok (.ior, 1) := by decide +kernel
theorem d_Mo_noon_138 : decode prog_13_method_111_code 138 = .ok (.istore 5, 2) := by decide +kernel
theorem d_Mo_noon_140 : decode prog_13_method_111_code 140 = .ok (.iinc 6 1, 3) := by decide +kernel
theorem d_Mo_noon_143 : decode prog_13_method_111_code 143 = .ok (.goto (-35), 3) := by decide +kernel
theorem d_Mo_noon_128 : decode prog_13_method_111_code 128 = .ok (.goto 18, 3) := by decide +kernel
theorem d_Mo_noon_125 : decode prog_13_method_111_code 125 = .ok (.if_icmp .ne 6, 3) := by decide +kernel
theorem d_Mo_noon_111 : decode prog_13_method_111_code 111 = .ok (.if_icmp .ge 35, 3) := by decide +kernel
theorem d_Mo_noon_146 : decode prog_13_method_111_code 146 = .ok (.iconst 0, 1) := by decide +kernel
theorem d_Mo_noon_147 : decode prog_13_method_111_code 147 = .ok (.istore 6, 2) := by decide +kernel
theorem d_Mo_noon_149 : decode prog_13_method_111_code 149 = .ok (.iload 6, 2) := by decide +kernel
theorem d_Mo_noon_151 : decode prog_13_method_111_code 151 = .ok (.bipush 8, 2) := by decide +kernel
theorem d_Mo_noon_156 : decode prog_13_method_111_code 156 = .ok (.aload_n 0, 1) := by decide +kernel
theorem d_Mo_noon_157 : decode prog_13_method_111_code 157 = .ok (.getfield 139, 3) := by decide +kernel
theorem d_Mo_noon_160 : decode prog_13_method_111_code 160 = .ok (.iload 6, 2) := by decide +kernel
theorem d_Mo_noon_162 : decode prog_13_method_111_code 162 = .ok (.aload_n 0, 1) := by decide +kernel
theorem d_Mo_noon_163 : decode prog_13_method_111_code 163 = .ok (.getfield 139, 3) := by decide +kernel
theorem d_Mo_noon_166 : decode prog_13_method_111_code 166 = .ok (.iload 6, 2) := by decide +kernel
theorem d_Mo_noon_168 : decode prog_13_method_111_code 168 = .ok (.iaload, 1) := by decide +kernel
theorem d_Mo_noon_169 : decode prog_13_method_111_code 169 = .ok (.iload 5, 2) := by decide +kernel
theorem d_Mo_noon_171 : decode prog_13_method_111_code 171 = .ok (.iload 6, 2) := by decide +kernel
theorem d_Mo_noon_173 : decode prog_13_method_111_code 173 = .ok (.ishr, 1) := by decide +kernel
theorem d_Mo_noon_174 : decode prog_13_method_111_code 174 = .ok (.iconst 1, 1) := by decide +kernel
theorem d_Mo_noon_175 : decode prog_13_method_111_code 175 = .ok (.iand, 1) := by decide +kernel
theorem d_Mo_noon_176 : decode prog_13_method_111_code 176 = .ok (.iadd, 1) := by decide +kernel
theorem d_Mo_noon_177 : decode prog_13_method_111_code 177 = .ok (.iastore, 1) := by decide +kernel
theorem d_Mo_noon_178 : decode prog_13_method_111_code 178 = .ok (.iinc 6 1, 3) := by decide +kernel
theorem d_Mo_noon_181 : decode prog_13_method_111_code 181 = .ok (.goto (-32), 3) := by decide +kernel
theorem d_Mo_noon_153 : decode prog_13_method_111_code 153 = .ok (.if_icmp .ge 31, 3) := by decide +kernel
theorem d_Mo_noon_184 : decode prog_13_method_111_code 184 = .ok (.iinc 4 1, 3) := by decide +kernel
theorem d_Mo_noon_187 : decode prog_13_method_111_code 187 = .ok (.goto (-91), 3) := by decide +kernel
theorem d_Mo_noon_99 : decode prog_13_method_111_code 99 = .ok (.if_icmp .ge 91, 3) := by decide +kernel
theorem d_Mo_noon_15 : decode prog_13_method_111_code 15 = .ok (.ifCond .ne 5, 3) := by decide +kernel
theorem d_Mo_noon_7 : decode prog_13_method_111_code 7 = .ok (.ifCond .eq 11, 3) := by decide +kernel
def B_Mo_noon_l29 (N : Nat) (a1 : Int32) (a2 : Int32) (σ : Mem) (rec : Int32 → Int32 → Option (Int32)) (x3 : Int32) (x4 : Int32) : Option (Int32) :=
  if 144 ≤ x4 then
    (some x3)
  else
    (bnd1 (f_Mo_whoOn σ 12 x4) fun r43 =>
    bnd1 ((
      if r43 = 0 then
        (some 0)
      else
        (some 1)) : Option (Int32)) fun y46_s1 =>
    letv (x3 + y46_s1) fun v55 =>
    letv (x4 + 1) fun v56 =>
    rec v55 v56)
def L_Mo_noon_l29 (N : Nat) (a1 : Int32) (a2 : Int32) (σ : Mem) : Nat → Int32 → Int32 → Option (Int32)
  | 0, _, _ => none
  | k + 1, x3, x4 => B_Mo_noon_l29 N a1 a2 σ (L_Mo_noon_l29 N a1 a2 σ k) x3 x4
set_option maxHeartbeats 4000000 in
set_option maxRecDepth 20000 in
theorem cL_Mo_noon_l29 (Z : ZX) {Y : YX} {Q : State → Prop} {N : Nat} {a1 : Int32} {a2 : Int32} {σ : Mem} {Good : Int32 → Prop} (hE : ∀ (o3 : Int32), Good o3 → V (mkB Z) Y m_Mo_noon 6 Q 0 0 nC σ 62 [(0, rf Z 65), (1, .int a1), (2, .int a2), (3, .int o3)] []) : ∀ (k : Nat) (x3 : Int32) (x4 : Int32) (res : Int32), L_Mo_noon_l29 N a1 a2 σ k x3 x4 = some res → Good res → V (mkB Z) Y m_Mo_noon 6 Q 0 0 nC σ 29 [(0, rf Z 65), (1, .int a1), (2, .int a2), (3, .int x3), (4, .int x4)] [] := by
  intro k
  induction k with
  | zero => intro x3 x4 res h; cases h
  | succ k ih =>
    intro x3 x4 res h hg
    replace h : B_Mo_noon_l29 N a1 a2 σ (L_Mo_noon_l29 N a1 a2 σ k) x3 x4 = some res := h
    unfold B_Mo_noon_l29 at h
    refine V.iload d_Mo_noon_29 4 rfl ?_
    refine V.sipush (v := 144) d_Mo_noon_31 (by decide) ?_
    refine V.icmp_ge (tgt := 62) d_Mo_noon_34 (by decide) (fun hc34 => ?_) (fun hc34 => ?_)
    · replace h := ite_t hc34 h
      cases h
      exact V.pick [0, 1, 2, 3] rfl (hE _ hg)
    · replace h := ite_f hc34 h
      refine V.iload_n d_Mo_noon_37 rfl 3 rfl ?_
      refine V.aload_n d_Mo_noon_38 rfl 0 rfl ?_
      refine V.bipush (v := 12) d_Mo_noon_39 (by decide) ?_
      refine V.iload d_Mo_noon_41 4 rfl ?_
      obtain ⟨r43, h1, h⟩ := bnd1_e h
      refine V.vI (as := [.int 12, .int x4]) (st := [.int x3]) (c_Mo_whoOn Z h1) k_Mo_whoOn lk_Mo_373 (by decide) rfl (by decide) ly_65 ok_Mo.1 rfl (Nat.le_of_ble_eq_true rfl) d_Mo_noon_43 ?_
      obtain ⟨s46, h1, h⟩ := bnd1_e h
      have J46_54 : ∀ (y46_s1 : Int32), s46 = y46_s1 → V (mkB Z) Y m_Mo_noon 6 Q 0 0 nC σ 54 [(0, rf Z 65), (1, .int a1), (2, .int a2), (4, .int x4)] [.int y46_s1, .int x3] := by
        intro y46_s1 he
        rw [he] at h
        refine V.iadd d_Mo_noon_54 ?_
        obtain ⟨v55, e_v55, h⟩ := letv_e h
        refine V.topI e_v55 ?_
        refine V.istore_n (lv' := [(3, .int v55), (0, rf Z 65), (1, .int a1), (2, .int a2), (4, .int x4)]) d_Mo_noon_55 rfl (by decide) rfl ?_
        obtain ⟨v56, e_v56, h⟩ := letv_e h
        refine V.iinc (v := v56) (lv' := [(4, .int v56), (3, .int v55), (0, rf Z 65), (1, .int a1), (2, .int a2)]) d_Mo_noon_56 4 rfl (by rw [e_v56]; rfl) (by decide) rfl ?_
        refine V.goto (tgt := 29) d_Mo_noon_59 (by decide) ?_
        exact V.pick [2, 3, 4, 1, 0] rfl (ih _ _ _ h hg)
      replace h := h1
      refine V.if_eq (tgt := 53) d_Mo_noon_46 (by decide) (fun hc46 => ?_) (fun hc46 => ?_)
      · replace h := ite_t hc46 h
        refine V.iconst (v := 0) d_Mo_noon_53 (by decide) ?_
        exact V.pick [0, 1, 2, 4] rfl (J46_54 _ (Option.some.inj h).symm)
      · replace h := ite_f hc46 h
        refine V.iconst (v := 1) d_Mo_noon_49 (by decide) ?_
        refine V.goto (tgt := 54) d_Mo_noon_50 (by decide) ?_
        exact V.pick [0, 1, 2, 4] rfl (J46_54 _ (Option.some.inj h).symm)
def B_Mo_noon_l72 (N : Nat) (a1 : Int32) (a2 : Int32) (a3 : Int32) (rec : Int32 → Mem → Option (Mem)) (x4 : Int32) (σ : Mem) : Option (Mem) :=
  if 8 ≤ x4 then
    (some σ)
  else
    (grd (inb x4 8) <|
    letv (sI σ 108 (x4.toNatClampNeg) 0) fun σ86 =>
    letv (x4 + 1) fun v87 =>
    rec v87 σ86)
def L_Mo_noon_l72 (N : Nat) (a1 : Int32) (a2 : Int32) (a3 : Int32) : Nat → Int32 → Mem → Option (Mem)
  | 0, _, _ => none
  | k + 1, x4, σ => B_Mo_noon_l72 N a1 a2 a3 (L_Mo_noon_l72 N a1 a2 a3 k) x4 σ
set_option maxHeartbeats 4000000 in
set_option maxRecDepth 20000 in
theorem cL_Mo_noon_l72 (Z : ZX) {Y : YX} {Q : State → Prop} {N : Nat} {a1 : Int32} {a2 : Int32} {a3 : Int32} {Good : Mem → Prop} (hE : ∀ (σe : Mem), Good σe → V (mkB Z) Y m_Mo_noon 6 Q 0 0 nC σe 93 [(0, rf Z 65), (1, .int a1), (2, .int a2), (3, .int a3)] []) : ∀ (k : Nat) (x4 : Int32) (σ : Mem) (res : Mem), L_Mo_noon_l72 N a1 a2 a3 k x4 σ = some res → Good res → V (mkB Z) Y m_Mo_noon 6 Q 0 0 nC σ 72 [(0, rf Z 65), (1, .int a1), (2, .int a2), (3, .int a3), (4, .int x4)] [] := by
  intro k
  induction k with
  | zero => intro x4 σ res h; cases h
  | succ k ih =>
    intro x4 σ res h hg
    replace h : B_Mo_noon_l72 N a1 a2 a3 (L_Mo_noon_l72 N a1 a2 a3 k) x4 σ = some res := h
    unfold B_Mo_noon_l72 at h
    refine V.iload d_Mo_noon_72 4 rfl ?_
    refine V.bipush (v := 8) d_Mo_noon_74 (by decide) ?_
    refine V.icmp_ge (tgt := 93) d_Mo_noon_76 (by decide) (fun hc76 => ?_) (fun hc76 => ?_)
    · replace h := ite_t hc76 h
      cases h
      exact V.pick [0, 1, 2, 3] rfl (hE _ hg)
    · replace h := ite_f hc76 h
      refine V.aload_n d_Mo_noon_79 rfl 0 rfl ?_
      refine V.getR (r := 108) ok_Mo fl_Mo_139 (by decide) (by decide) ly_65 rfl d_Mo_noon_80 ?_
      refine V.iload d_Mo_noon_83 4 rfl ?_
      refine V.iconst (v := 0) d_Mo_noon_85 (by decide) ?_
      obtain ⟨gq, h⟩ := grd_e h
      obtain ⟨σ86, e_σ86, h⟩ := letv_e h
      refine V.wa (by decide) ly_108 (inb_e gq) rfl d_Mo_noon_86 e_σ86 ?_
      obtain ⟨v87, e_v87, h⟩ := letv_e h
      refine V.iinc (v := v87) (lv' := [(4, .int v87), (0, rf Z 65), (1, .int a1), (2, .int a2), (3, .int a3)]) d_Mo_noon_87 4 rfl (by rw [e_v87]; rfl) (by decide) rfl ?_
      refine V.goto (tgt := 72) d_Mo_noon_90 (by decide) ?_
      exact V.pick [1, 2, 3, 4, 0] rfl (ih _ _ _ h hg)
def B_Mo_noon_l108 (N : Nat) (a1 : Int32) (a2 : Int32) (a3 : Int32) (a4 : Int32) (rec : Int32 → Int32 → Mem → Option ((Int32 × Mem) ⊕ (Int32 × Mem))) (x5 : Int32) (x6 : Int32) (σ : Mem) : Option ((Int32 × Mem) ⊕ (Int32 × Mem)) :=
  if a3 ≤ x6 then
    (some (.inr (x5, σ)))
  else
    (bnd1 (f_Mo_fewestOf N σ x5) fun r117 =>
    if r117 = (-1) then
      (some (.inr (x5, σ)))
    else
      (letv (x5 ||| (1 <<< (r117 &&& 31))) fun v138 =>
      letv (x6 + 1) fun v140 =>
      rec v138 v140 σ))
def L_Mo_noon_l108 (N : Nat) (a1 : Int32) (a2 : Int32) (a3 : Int32) (a4 : Int32) : Nat → Int32 → Int32 → Mem → Option ((Int32 × Mem) ⊕ (Int32 × Mem))
  | 0, _, _, _ => none
  | k + 1, x5, x6, σ => B_Mo_noon_l108 N a1 a2 a3 a4 (L_Mo_noon_l108 N a1 a2 a3 a4 k) x5 x6 σ
set_option maxHeartbeats 4000000 in
set_option maxRecDepth 20000 in
theorem cL_Mo_noon_l108 (Z : ZX) {Y : YX} {post : Option Value → Mem → Prop} {N : Nat} {a1 : Int32} {a2 : Int32} {a3 : Int32} {a4 : Int32} {Good : (Int32 × Mem) ⊕ (Int32 × Mem) → Prop} (hE : ∀ (o5 : Int32) (σe : Mem), Good (.inr (o5, σe)) → V (mkB Z) Y m_Mo_noon 6 (QP (mkB Z) Y nC 0 0 post) 0 0 nC σe 146 [(0, rf Z 65), (1, .int a1), (2, .int a2), (3, .int a3), (4, .int a4), (5, .int o5)] []) (hR : ∀ (v : Int32) (σr : Mem), Good (.inl (v, σr)) → post (some (.int v)) σr) : ∀ (k : Nat) (x5 : Int32) (x6 : Int32) (σ : Mem) (res : (Int32 × Mem) ⊕ (Int32 × Mem)), L_Mo_noon_l108 N a1 a2 a3 a4 k x5 x6 σ = some res → Good res → V (mkB Z) Y m_Mo_noon 6 (QP (mkB Z) Y nC 0 0 post) 0 0 nC σ 108 [(0, rf Z 65), (1, .int a1), (2, .int a2), (3, .int a3), (4, .int a4), (5, .int x5), (6, .int x6)] [] := by
  intro k
  induction k with
  | zero => intro x5 x6 σ res h; cases h
  | succ k ih =>
    intro x5 x6 σ res h hg
    replace h : B_Mo_noon_l108 N a1 a2 a3 a4 (L_Mo_noon_l108 N a1 a2 a3 a4 k) x5 x6 σ = some res := h
    unfold B_Mo_noon_l108 at h
    refine V.iload d_Mo_noon_108 6 rfl ?_
    refine V.iload_n d_Mo_noon_110 rfl 3 rfl ?_
    refine V.icmp_ge (tgt := 146) d_Mo_noon_111 (by decide) (fun hc111 => ?_) (fun hc111 => ?_)
    · replace h := ite_t hc111 h
      cases h
      exact V.pick [0, 1, 2, 3, 4, 5] rfl (hE _ _ hg)
    · replace h := ite_f hc111 h
      refine V.aload_n d_Mo_noon_114 rfl 0 rfl ?_
      refine V.iload d_Mo_noon_115 5 rfl ?_
      obtain ⟨r117, h1, h⟩ := bnd1_e h
      refine V.vI (as := [.int x5]) (st := []) (c_Mo_fewestOf Z h1) k_Mo_fewestOf lk_Mo_509 (by decide) rfl (by decide) ly_65 ok_Mo.1 rfl (Nat.le_of_ble_eq_true rfl) d_Mo_noon_117 ?_
      refine V.istore (lv' := [(7, .int r117), (0, rf Z 65), (1, .int a1), (2, .int a2), (3, .int a3), (4, .int a4), (5, .int x5), (6, .int x6)]) d_Mo_noon_120 (by decide) rfl ?_
      refine V.iload d_Mo_noon_122 0 rfl ?_
      refine V.iconst (v := (-1)) d_Mo_noon_124 (by decide) ?_
      refine V.icmp_ne (tgt := 131) d_Mo_noon_125 (by decide) (fun hc125 => ?_) (fun hc125 => ?_)
      · replace h := ite_f hc125 h
        refine V.iload d_Mo_noon_131 6 rfl ?_
        refine V.iconst (v := 1) d_Mo_noon_133 (by decide) ?_
        refine V.iload d_Mo_noon_134 0 rfl ?_
        refine V.ishl d_Mo_noon_136 ?_
        refine V.ior d_Mo_noon_137 ?_
        obtain ⟨v138, e_v138, h⟩ := letv_e h
        refine V.topI e_v138 ?_
        refine V.istore (lv' := [(5, .int v138), (7, .int r117), (0, rf Z 65), (1, .int a1), (2, .int a2), (3, .int a3), (4, .int a4), (6, .int x6)]) d_Mo_noon_138 (by decide) rfl ?_
        obtain ⟨v140, e_v140, h⟩ := letv_e h
        refine V.iinc (v := v140) (lv' := [(6, .int v140), (5, .int v138), (7, .int r117), (0, rf Z 65), (1, .int a1), (2, .int a2), (3, .int a3), (4, .int a4)]) d_Mo_noon_140 7 rfl (by rw [e_v140]; rfl) (by decide) rfl ?_
        refine V.goto (tgt := 108) d_Mo_noon_143 (by decide) ?_
        exact V.pick [3, 4, 5, 6, 7, 1, 0] rfl (ih _ _ _ _ h hg)
      · replace h := ite_t hc125 h
        refine V.goto (tgt := 146) d_Mo_noon_128 (by decide) ?_
        cases h
        exact V.pick [1, 2, 3, 4, 5, 6] rfl (hE _ _ hg)
def B_Mo_noon_l149 (N : Nat) (a1 : Int32) (a2 : Int32) (a3 : Int32) (a4 : Int32) (a5 : Int32) (rec : Int32 → Mem → Option (Mem)) (x6 : Int32) (σ : Mem) : Option (Mem) :=
  if 8 ≤ x6 then
    (some σ)
  else
    (grd (inb x6 8) <|
    grd (inb x6 8) <|
    letv (sI σ 108 (x6.toNatClampNeg) ((mI σ 108 (x6.toNatClampNeg)) + ((a5 >>> (x6 &&& 31)) &&& 1))) fun σ177 =>
    letv (x6 + 1) fun v178 =>
    rec v178 σ177)
def L_Mo_noon_l149 (N : Nat) (a1 : Int32) (a2 : Int32) (a3 : Int32) (a4 : Int32) (a5 : Int32) : Nat → Int32 → Mem → Option (Mem)
  | 0, _, _ => none
  | k + 1, x6, σ => B_Mo_noon_l149 N a1 a2 a3 a4 a5 (L_Mo_noon_l149 N a1 a2 a3 a4 a5 k) x6 σ
set_option maxHeartbeats 4000000 in
set_option maxRecDepth 20000 in
theorem cL_Mo_noon_l149 (Z : ZX) {Y : YX} {Q : State → Prop} {N : Nat} {a1 : Int32} {a2 : Int32} {a3 : Int32} {a4 : Int32} {a5 : Int32} {Good : Mem → Prop} (hE : ∀ (σe : Mem), Good σe → V (mkB Z) Y m_Mo_noon 6 Q 0 0 nC σe 184 [(0, rf Z 65), (1, .int a1), (2, .int a2), (3, .int a3), (4, .int a4)] []) : ∀ (k : Nat) (x6 : Int32) (σ : Mem) (res : Mem), L_Mo_noon_l149 N a1 a2 a3 a4 a5 k x6 σ = some res → Good res → V (mkB Z) Y m_Mo_noon 6 Q 0 0 nC σ 149 [(0, rf Z 65), (1, .int a1), (2, .int a2), (3, .int a3), (4, .int a4), (5, .int a5), (6, .int x6)] [] := by
  intro k
  induction k with
  | zero => intro x6 σ res h; cases h
  | succ k ih =>
    intro x6 σ res h hg
    replace h : B_Mo_noon_l149 N a1 a2 a3 a4 a5 (L_Mo_noon_l149 N a1 a2 a3 a4 a5 k) x6 σ = some res := h
    unfold B_Mo_noon_l149 at h
    refine V.iload d_Mo_noon_149 6 rfl ?_
    refine V.bipush (v := 8) d_Mo_noon_151 (by decide) ?_
    refine V.icmp_ge (tgt := 184) d_Mo_noon_153 (by decide) (fun hc153 => ?_) (fun hc153 => ?_)
    · replace h := ite_t hc153 h
      cases h
      exact V.pick [0, 1, 2, 3, 4] rfl (hE _ hg)
    · replace h := ite_f hc153 h
      refine V.aload_n d_Mo_noon_156 rfl 0 rfl ?_
      refine V.getR (r := 108) ok_Mo fl_Mo_139 (by decide) (by decide) ly_65 rfl d_Mo_noon_157 ?_
      refine V.iload d_Mo_noon_160 6 rfl ?_
      refine V.aload_n d_Mo_noon_162 rfl 0 rfl ?_
      refine V.getR (r := 108) ok_Mo fl_Mo_139 (by decide) (by decide) ly_65 rfl d_Mo_noon_163 ?_
      refine V.iload d_Mo_noon_166 6 rfl ?_
      obtain ⟨gq, h⟩ := grd_e h
      refine V.ra (by decide) ly_108 (inb_e gq) rfl d_Mo_noon_168 ?_
      refine V.iload d_Mo_noon_169 5 rfl ?_
      refine V.iload d_Mo_noon_171 6 rfl ?_
      refine V.ishr d_Mo_noon_173 ?_
      refine V.iconst (v := 1) d_Mo_noon_174 (by decide) ?_
      refine V.iand d_Mo_noon_175 ?_
      refine V.iadd d_Mo_noon_176 ?_
      obtain ⟨gq, h⟩ := grd_e h
      obtain ⟨σ177, e_σ177, h⟩ := letv_e h
      refine V.wa (by decide) ly_108 (inb_e gq) rfl d_Mo_noon_177 e_σ177 ?_
      obtain ⟨v178, e_v178, h⟩ := letv_e h
      refine V.iinc (v := v178) (lv' := [(6, .int v178), (0, rf Z 65), (1, .int a1), (2, .int a2), (3, .int a3), (4, .int a4), (5, .int a5)]) d_Mo_noon_178 6 rfl (by rw [e_v178]; rfl) (by decide) rfl ?_
      refine V.goto (tgt := 149) d_Mo_noon_181 (by decide) ?_
      exact V.pick [1, 2, 3, 4, 5, 6, 0] rfl (ih _ _ _ h hg)
def B_Mo_noon_l96 (N : Nat) (a1 : Int32) (a2 : Int32) (a3 : Int32) (rec : Int32 → Mem → Option (Int32 × Mem)) (x4 : Int32) (σ : Mem) : Option (Int32 × Mem) :=
  if a1 ≤ x4 then
    (grd (inb a2 8) <|
    some (mI σ 108 (a2.toNatClampNeg), σ))
  else
    (bnd1 (L_Mo_noon_l108 N a1 a2 a3 x4 N 0 0 σ) fun x108_ =>
    sm x108_ (fun r108_ => some r108_) fun e108 =>
    q2 e108 fun z108_5 σ108_ =>
    bnd1 (L_Mo_noon_l149 N a1 a2 a3 x4 z108_5 N 0 σ108_) fun σ149_ =>
    letv (x4 + 1) fun v184 =>
    rec v184 σ149_)
def L_Mo_noon_l96 (N : Nat) (a1 : Int32) (a2 : Int32) (a3 : Int32) : Nat → Int32 → Mem → Option (Int32 × Mem)
  | 0, _, _ => none
  | k + 1, x4, σ => B_Mo_noon_l96 N a1 a2 a3 (L_Mo_noon_l96 N a1 a2 a3 k) x4 σ
set_option maxHeartbeats 4000000 in
set_option maxRecDepth 20000 in
theorem cL_Mo_noon_l96 (Z : ZX) {Y : YX} {post : Option Value → Mem → Prop} {N : Nat} {a1 : Int32} {a2 : Int32} {a3 : Int32} {Good : Int32 × Mem → Prop} (hR : ∀ (v : Int32) (σr : Mem), Good (v, σr) → post (some (.int v)) σr) : ∀ (k : Nat) (x4 : Int32) (σ : Mem) (res : Int32 × Mem), L_Mo_noon_l96 N a1 a2 a3 k x4 σ = some res → Good res → V (mkB Z) Y m_Mo_noon 6 (QP (mkB Z) Y nC 0 0 post) 0 0 nC σ 96 [(0, rf Z 65), (1, .int a1), (2, .int a2), (3, .int a3), (4, .int x4)] [] := by
  intro k
  induction k with
  | zero => intro x4 σ res h; cases h
  | succ k ih =>
    intro x4 σ res h hg
    replace h : B_Mo_noon_l96 N a1 a2 a3 (L_Mo_noon_l96 N a1 a2 a3 k) x4 σ = some res := h
    unfold B_Mo_noon_l96 at h
    refine V.iload d_Mo_noon_96 4 rfl ?_
    refine V.iload_n d_Mo_noon_98 rfl 1 rfl ?_
    refine V.icmp_ge (tgt := 190) d_Mo_noon_99 (by decide) (fun hc99 => ?_) (fun hc99 => ?_)
    · replace h := ite_t hc99 h
      refine V.aload_n d_Mo_noon_190 rfl 0 rfl ?_
      refine V.getR (r := 108) ok_Mo fl_Mo_139 (by decide) (by decide) ly_65 rfl d_Mo_noon_191 ?_
      refine V.iload_n d_Mo_noon_194 rfl 2 rfl ?_
      obtain ⟨gq, h⟩ := grd_e h
      refine V.ra (by decide) ly_108 (inb_e gq) rfl d_Mo_noon_195 ?_
      cases h
      exact V.iret rfl d_Mo_noon_196 (hR _ _ hg)
    · replace h := ite_f hc99 h
      refine V.iconst (v := 0) d_Mo_noon_102 (by decide) ?_
      refine V.istore (lv' := [(5, .int 0), (0, rf Z 65), (1, .int a1), (2, .int a2), (3, .int a3), (4, .int x4)]) d_Mo_noon_103 (by decide) rfl ?_
      refine V.iconst (v := 0) d_Mo_noon_105 (by decide) ?_
      refine V.istore (lv' := [(6, .int 0), (5, .int 0), (0, rf Z 65), (1, .int a1), (2, .int a2), (3, .int a3), (4, .int x4)]) d_Mo_noon_106 (by decide) rfl ?_
      obtain ⟨x108_, h1, h⟩ := bnd1_e h
      refine V.pick [2, 3, 4, 5, 6, 1, 0] rfl (cL_Mo_noon_l108 Z (Good := fun z => x108_ = z) (fun z108_5 σ108_ he => ?_) (fun r108v r108m he => ?_) N _ _ _ _ h1 rfl)
      · rw [he] at h
        replace h := sm_r h
        replace h := q2_e h
        refine V.iconst (v := 0) d_Mo_noon_146 (by decide) ?_
        refine V.istore (lv' := [(6, .int 0), (0, rf Z 65), (1, .int a1), (2, .int a2), (3, .int a3), (4, .int x4), (5, .int z108_5)]) d_Mo_noon_147 (by decide) rfl ?_
        obtain ⟨x149_, h1, h⟩ := bnd1_e h
        refine V.pick [1, 2, 3, 4, 5, 6, 0] rfl (cL_Mo_noon_l149 Z (Good := fun z => x149_ = z) (fun σ149_ he => ?_) N _ _ _ h1 rfl)
        · rw [he] at h
          obtain ⟨v184, e_v184, h⟩ := letv_e h
          refine V.iinc (v := v184) (lv' := [(4, .int v184), (0, rf Z 65), (1, .int a1), (2, .int a2), (3, .int a3)]) d_Mo_noon_184 4 rfl (by rw [e_v184]; rfl) (by decide) rfl ?_
          refine V.goto (tgt := 96) d_Mo_noon_187 (by decide) ?_
          exact V.pick [1, 2, 3, 4, 0] rfl (ih _ _ _ h hg)
      · rw [he] at h
        replace h := sm_l h
        cases h
        exact hR _ _ hg
def f_Mo_noon (N : Nat) (σ : Mem) (a1 : Int32) (a2 : Int32) : Option (Int32 × Mem) :=
  bnd1 (f_Mo_in a1 1 60) fun r4 =>
  if r4 = 0 then
    (some ((-1), σ))
  else
    (bnd1 (f_Mo_isBuyer σ a2) fun r12 =>
    if r12 = 0 then
      (some ((-1), σ))
    else
      (bnd1 (f_Mo_laysDay N σ) fun σ21 =>
      bnd1 (L_Mo_noon_l29 N a1 a2 σ21 N 0 0) fun z29_3 =>
      bnd1 (f_Mo_min 8 z29_3) fun r65 =>
      bnd1 (L_Mo_noon_l72 N a1 a2 r65 N 0 σ21) fun σ72_ =>
      L_Mo_noon_l96 N a1 a2 r65 N 0 σ72_))
set_option maxHeartbeats 4000000 in
set_option maxRecDepth 20000 in
theorem c_Mo_noon (Z : ZX) {N : Nat} {σ : Mem} {a1 : Int32} {a2 : Int32} {r : Int32} {σ' : Mem} (h : f_Mo_noon N σ a1 a2 = some (r, σ')) : CI Z 6 m_Mo_noon [rf Z 65, .int a1, .int a2] σ r σ' := by
  refine Ct.of (by decide +kernel) (Nat.le_of_ble_eq_true rfl) (fun Y => ?_)
  show V (mkB Z) Y m_Mo_noon 6 (QP (mkB Z) Y nC 0 0 (fun v t => v = some (.int r) ∧ t = σ')) 0 0 nC σ 0 [(0, rf Z 65), (1, .int a1), (2, .int a2)] []
  unfold f_Mo_noon at h
  refine V.iload_n d_Mo_noon_0 rfl 1 rfl ?_
  refine V.iconst (v := 1) d_Mo_noon_1 (by decide) ?_
  refine V.bipush (v := 60) d_Mo_noon_2 (by decide) ?_
  obtain ⟨r4, h1, h⟩ := bnd1_e h
  refine V.sI (as := [.int a1, .int 1, .int 60]) (st := []) (c_Mo_in Z h1) k_Mo_in lk_Mo_188 (by decide) rfl rfl (Nat.le_of_ble_eq_true rfl) d_Mo_noon_4 ?_
  refine V.if_eq (tgt := 18) d_Mo_noon_7 (by decide) (fun hc7 => ?_) (fun hc7 => ?_)
  · replace h := ite_t hc7 h
    refine V.iconst (v := (-1)) d_Mo_noon_18 (by decide) ?_
    cases h
    exact V.iret rfl d_Mo_noon_19 ⟨rfl, rfl⟩
  · replace h := ite_f hc7 h
    refine V.aload_n d_Mo_noon_10 rfl 0 rfl ?_
    refine V.iload_n d_Mo_noon_11 rfl 2 rfl ?_
    obtain ⟨r12, h1, h⟩ := bnd1_e h
    refine V.vI (as := [.int a2]) (st := []) (c_Mo_isBuyer Z h1) k_Mo_isBuyer lk_Mo_447 (by decide) rfl (by decide) ly_65 ok_Mo.1 rfl (Nat.le_of_ble_eq_true rfl) d_Mo_noon_12 ?_
    refine V.if_ne (tgt := 20) d_Mo_noon_15 (by decide) (fun hc15 => ?_) (fun hc15 => ?_)
    · replace h := ite_f hc15 h
      refine V.aload_n d_Mo_noon_20 rfl 0 rfl ?_
      obtain ⟨σ21, h1, h⟩ := bnd1_e h
      refine V.vN (as := []) (st := []) (c_Mo_laysDay Z h1) k_Mo_laysDay lk_Mo_370 (by decide) rfl (by decide) ly_65 ok_Mo.1 rfl (Nat.le_of_ble_eq_true rfl) d_Mo_noon_21 ?_
      refine V.iconst (v := 0) d_Mo_noon_24 (by decide) ?_
      refine V.istore_n (lv' := [(3, .int 0), (0, rf Z 65), (1, .int a1), (2, .int a2)]) d_Mo_noon_25 rfl (by decide) rfl ?_
      refine V.iconst (v := 0) d_Mo_noon_26 (by decide) ?_
      refine V.istore (lv' := [(4, .int 0), (3, .int 0), (0, rf Z 65), (1, .int a1), (2, .int a2)]) d_Mo_noon_27 (by decide) rfl ?_
      obtain ⟨x29_, h1, h⟩ := bnd1_e h
      refine V.pick [2, 3, 4, 1, 0] rfl (cL_Mo_noon_l29 Z (Good := fun z => x29_ = z) (fun z29_3 he => ?_) N _ _ _ h1 rfl)
      · rw [he] at h
        refine V.bipush (v := 8) d_Mo_noon_62 (by decide) ?_
        refine V.iload_n d_Mo_noon_64 rfl 3 rfl ?_
        obtain ⟨r65, h1, h⟩ := bnd1_e h
        refine V.sI (as := [.int 8, .int z29_3]) (st := []) (c_Mo_min Z h1) k_Mo_min lk_Mo_342 (by decide) rfl rfl (Nat.le_of_ble_eq_true rfl) d_Mo_noon_65 ?_
        refine V.istore_n (lv' := [(3, .int r65), (0, rf Z 65), (1, .int a1), (2, .int a2)]) d_Mo_noon_68 rfl (by decide) rfl ?_
        refine V.iconst (v := 0) d_Mo_noon_69 (by decide) ?_
        refine V.istore (lv' := [(4, .int 0), (3, .int r65), (0, rf Z 65), (1, .int a1), (2, .int a2)]) d_Mo_noon_70 (by decide) rfl ?_
        obtain ⟨x72_, h1, h⟩ := bnd1_e h
        refine V.pick [2, 3, 4, 1, 0] rfl (cL_Mo_noon_l72 Z (Good := fun z => x72_ = z) (fun σ72_ he => ?_) N _ _ _ h1 rfl)
        · rw [he] at h
          refine V.iconst (v := 0) d_Mo_noon_93 (by decide) ?_
          refine V.istore (lv' := [(4, .int 0), (0, rf Z 65), (1, .int a1), (2, .int a2), (3, .int r65)]) d_Mo_noon_94 (by decide) rfl ?_
          refine V.pick [1, 2, 3, 4, 0] rfl (cL_Mo_noon_l96 Z (Good := fun z => z = _) (fun r96v r96m he => ?_) N _ _ _ h rfl)
          · cases he
            exact ⟨rfl, rfl⟩
    · replace h := ite_t hc15 h
      refine V.iconst (v := (-1)) d_Mo_noon_18 (by decide) ?_
      cases h
      exact V.iret rfl d_Mo_noon_19 ⟨rfl, rfl⟩
abbrev m_Mo_year : MI := (⟨"ShadeTownModel", "year", "()I"⟩, prog_13_method_112_code, 3, (Option.some Jvm.ClassFile.FieldType.int))
theorem d_Mo_year_0 : decode prog_13_method_112_code 0 = .ok (.iconst 0, 1) := by decide +kernel
theorem d_Mo_year_1 : decode prog_13_method_112_code 1 = .ok (.istore_n 1, 1) := by decide +kernel
theorem d_Mo_year_2 : decode prog_13_method_112_code 2 = .ok (.iconst 0, 1) := by decide +kernel
theorem d_Mo_year_3 : decode prog_13_method_112_code 3 = .ok (.istore_n 2, 1) := by decide +kernel
theorem d_Mo_year_4 : decode prog_13_method_112_code 4 = .ok (.iload_n 2, 1) := by decide +kernel
theorem d_Mo_year_5 : decode prog_13_method_112_code 5 = .ok (.aload_n 0, 1) := by decide +kernel
theorem d_Mo_year_6 : decode prog_13_method_112_code 6 = .ok (.getfield 167, 3) := by decide +kernel
theorem d_Mo_year_12 : decode prog_13_method_112_code 12 = .ok (.aload_n 0, 1) := by decide +kernel
theorem fl_Mo_142 : FL "ShadeTownModel" 142 T_Mo 67 := atG 1399 (by decide +kernel) rfl
theorem d_Mo_year_13 : decode prog_13_method_112_code 13 = .ok (.getfield 142, 3) := by decide +kernel
theorem d_Mo_year_16 : decode prog_13_method_112_code 16 = .ok (.iload_n 2, 1) := by decide +kernel
theorem d_Mo_year_17 : decode prog_13_method_112_code 17 = .ok (.iconst 0, 1) := by decide +kernel
theorem d_Mo_year_18 : decode prog_13_method_112_code 18 = .ok (.iastore, 1) := by decide +kernel
theorem d_Mo_year_19 : decode prog_13_method_112_code 19 = .ok (.aload_n 0, 1) := by decide +kernel
theorem d_Mo_year_20 : decode prog_13_method_112_code 20 = .ok (.getfield 174, 3) := by decide +kernel
theorem d_Mo_year_23 : decode prog_13_method_112_code 23 = .ok (.iload_n 2, 1) := by decide +kernel
theorem d_Mo_year_24 : decode prog_13_method_112_code 24 = .ok (.invokestatic 177, 3) := by decide +kernel
theorem d_Mo_year_30 : decode prog_13_method_112_code 30 = .ok (.aload_n 0, 1) := by decide +kernel
theorem d_Mo_year_31 : decode prog_13_method_112_code 31 = .ok (.getfield 7, 3) := by decide +kernel
theorem d_Mo_year_34 : decode prog_13_method_112_code 34 = .ok (.iload_n 2, 1) := by decide +kernel
theorem d_Mo_year_35 : decode prog_13_method_112_code 35 = .ok (.iaload, 1) := by decide +kernel
theorem d_Mo_year_36 : decode prog_13_method_112_code 36 = .ok (.iconst 1, 1) := by decide +kernel
theorem d_Mo_year_43 : decode prog_13_method_112_code 43 = .ok (.aload_n 0, 1) := by decide +kernel
theorem d_Mo_year_44 : decode prog_13_method_112_code 44 = .ok (.iconst 0, 1) := by decide +kernel
theorem d_Mo_year_45 : decode prog_13_method_112_code 45 = .ok (.invokevirtual 315, 3) := by decide +kernel
theorem d_Mo_year_48 : decode prog_13_method_112_code 48 = .ok (.aload_n 0, 1) := by decide +kernel
theorem d_Mo_year_49 : decode prog_13_method_112_code 49 = .ok (.getfield 68, 3) := by decide +kernel
theorem d_Mo_year_52 : decode prog_13_method_112_code 52 = .ok (.bipush 7, 2) := by decide +kernel
theorem d_Mo_year_54 : decode prog_13_method_112_code 54 = .ok (.aload_n 0, 1) := by decide +kernel
theorem d_Mo_year_55 : decode prog_13_method_112_code 55 = .ok (.getfield 16, 3) := by decide +kernel
theorem d_Mo_year_58 : decode prog_13_method_112_code 58 = .ok (.iload_n 2, 1) := by decide +kernel
theorem d_Mo_year_59 : decode prog_13_method_112_code 59 = .ok (.iaload, 1) := by decide +kernel
theorem d_Mo_year_60 : decode prog_13_method_112_code 60 = .ok (.iastore, 1) := by decide +kernel
theorem d_Mo_year_61 : decode prog_13_method_112_code 61 = .ok (.aload_n 0, 1) := by decide +kernel
theorem d_Mo_year_62 : decode prog_13_method_112_code 62 = .ok (.getfield 68, 3) := by decide +kernel
theorem d_Mo_year_65 : decode prog_13_method_112_code 65 = .ok (.bipush 8, 2) := by decide +kernel
theorem d_Mo_year_67 : decode prog_13_method_112_code 67 = .ok (.aload_n 0, 1) := by decide +kernel
theorem d_Mo_year_68 : decode prog_13_method_112_code 68 = .ok (.getfield 22, 3) := by decide +kernel
theorem d_Mo_year_71 : decode prog_13_method_112_code 71 = .ok (.iload_n 2, 1) := by decide +kernel
theorem d_Mo_year_72 : decode prog_13_method_112_code 72 = .ok (.iaload, 1) := by decide +kernel
theorem d_Mo_year_73 : decode prog_13_method_112_code 73 = .ok (.iastore, 1) := by decide +kernel
theorem d_Mo_year_74 : decode prog_13_method_112_code 74 = .ok (.aload_n 0, 1) := by decide +kernel
theorem d_Mo_year_75 : decode prog_13_method_112_code 75 = .ok (.getfield 142, 3) := by decide +kernel
theorem d_Mo_year_78 : decode prog_13_method_112_code 78 = .ok (.iload_n 2, 1) := by decide +kernel
theorem d_Mo_year_79 : decode prog_13_method_112_code 79 = .ok (.bipush 99, 2) := by decide +kernel
theorem d_Mo_year_81 : decode prog_13_method_112_code 81 = .ok (.aload_n 0, 1) := by decide +kernel
theorem d_Mo_year_82 : decode prog_13_method_112_code 82 = .ok (.getfield 16, 3) := by decide +kernel
theorem d_Mo_year_85 : decode prog_13_method_112_code 85 = .ok (.iload_n 2, 1) := by decide +kernel
theorem d_Mo_year_86 : decode prog_13_method_112_code 86 = .ok (.iaload, 1) := by decide +kernel
theorem d_Mo_year_87 : decode prog_13_method_112_code 87 = .ok (.isub, 1) := by decide +kernel
theorem d_Mo_year_88 : decode prog_13_method_112_code 88 = .ok (.aload_n 0, 1) := by decide +kernel
theorem d_Mo_year_89 : decode prog_13_method_112_code 89 = .ok (.bipush 103, 2) := by decide +kernel
theorem d_Mo_year_91 : decode prog_13_method_112_code 91 = .ok (.iconst 0, 1) := by decide +kernel
theorem d_Mo_year_92 : decode prog_13_method_112_code 92 = .ok (.bipush 9, 2) := by decide +kernel
theorem d_Mo_year_94 : decode prog_13_method_112_code 94 = .ok (.invokevirtual 318, 3) := by decide +kernel
theorem d_Mo_year_97 : decode prog_13_method_112_code 97 = .ok (.invokestatic 342, 3) := by decide +kernel
theorem d_Mo_year_100 : decode prog_13_method_112_code 100 = .ok (.iastore, 1) := by decide +kernel
theorem d_Mo_year_40 : decode prog_13_method_112_code 40 = .ok (.goto 61, 3) := by decide +kernel
theorem d_Mo_year_37 : decode prog_13_method_112_code 37 = .ok (.if_icmp .eq 6, 3) := by decide +kernel
theorem d_Mo_year_27 : decode prog_13_method_112_code 27 = .ok (.ifCond .eq 74, 3) := by decide +kernel
theorem d_Mo_year_101 : decode prog_13_method_112_code 101 = .ok (.iinc 2 1, 3) := by decide +kernel
theorem d_Mo_year_104 : decode prog_13_method_112_code 104 = .ok (.goto (-100), 3) := by decide +kernel
theorem d_Mo_year_9 : decode prog_13_method_112_code 9 = .ok (.if_icmp .ge 98, 3) := by decide +kernel
theorem d_Mo_year_107 : decode prog_13_method_112_code 107 = .ok (.iconst 0, 1) := by decide +kernel
theorem d_Mo_year_108 : decode prog_13_method_112_code 108 = .ok (.istore_n 2, 1) := by decide +kernel
theorem d_Mo_year_109 : decode prog_13_method_112_code 109 = .ok (.iload_n 2, 1) := by decide +kernel
theorem d_Mo_year_110 : decode prog_13_method_112_code 110 = .ok (.aload_n 0, 1) := by decide +kernel
theorem d_Mo_year_111 : decode prog_13_method_112_code 111 = .ok (.getfield 167, 3) := by decide +kernel
theorem d_Mo_year_151 : decode prog_13_method_112_code 151 = .ok (.iload_n 1, 1) := by decide +kernel
theorem d_Mo_year_152 : decode prog_13_method_112_code 152 = .ok (.ireturn, 1) := by decide +kernel
theorem d_Mo_year_117 : decode prog_13_method_112_code 117 = .ok (.aload_n 0, 1) := by decide +kernel
theorem d_Mo_year_118 : decode prog_13_method_112_code 118 = .ok (.getfield 16, 3) := by decide +kernel
theorem d_Mo_year_121 : decode prog_13_method_112_code 121 = .ok (.iload_n 2, 1) := by decide +kernel
theorem d_Mo_year_122 : decode prog_13_method_112_code 122 = .ok (.aload_n 0, 1) := by decide +kernel
theorem d_Mo_year_123 : decode prog_13_method_112_code 123 = .ok (.getfield 16, 3) := by decide +kernel
theorem d_Mo_year_126 : decode prog_13_method_112_code 126 = .ok (.iload_n 2, 1) := by decide +kernel
theorem d_Mo_year_127 : decode prog_13_method_112_code 127 = .ok (.iaload, 1) := by decide +kernel
theorem d_Mo_year_128 : decode prog_13_method_112_code 128 = .ok (.aload_n 0, 1) := by decide +kernel
theorem d_Mo_year_129 : decode prog_13_method_112_code 129 = .ok (.getfield 142, 3) := by decide +kernel
theorem d_Mo_year_132 : decode prog_13_method_112_code 132 = .ok (.iload_n 2, 1) := by decide +kernel
theorem d_Mo_year_133 : decode prog_13_method_112_code 133 = .ok (.iaload, 1) := by decide +kernel
theorem d_Mo_year_134 : decode prog_13_method_112_code 134 = .ok (.iadd, 1) := by decide +kernel
theorem d_Mo_year_135 : decode prog_13_method_112_code 135 = .ok (.iastore, 1) := by decide +kernel
theorem d_Mo_year_136 : decode prog_13_method_112_code 136 = .ok (.iload_n 1, 1) := by decide +kernel
theorem d_Mo_year_137 : decode prog_13_method_112_code 137 = .ok (.aload_n 0, 1) := by decide +kernel
theorem d_Mo_year_138 : decode prog_13_method_112_code 138 = .ok (.getfield 142, 3) := by decide +kernel
theorem d_Mo_year_141 : decode prog_13_method_112_code 141 = .ok (.iload_n 2, 1) := by decide +kernel
theorem d_Mo_year_142 : decode prog_13_method_112_code 142 = .ok (.iaload, 1) := by decide +kernel
theorem d_Mo_year_143 : decode prog_13_method_112_code 143 = .ok (.iadd, 1) := by decide +kernel
theorem d_Mo_year_144 : decode prog_13_method_112_code 144 = .ok (.istore_n 1, 1) := by decide +kernel
theorem d_Mo_year_145 : decode prog_13_method_112_code 145 = .ok (.iinc 2 1, 3) := by decide +kernel
theorem d_Mo_year_148 : decode prog_13_method_112_code 148 = .ok (.goto (-39), 3) := by decide +kernel
theorem d_Mo_year_114 : decode prog_13_method_112_code 114 = .ok (.if_icmp .ge 37, 3) := by decide +kernel
def B_Mo_year_l4 (N : Nat) (a1 : Int32) (rec : Int32 → Mem → Option (Mem)) (x2 : Int32) (σ : Mem) : Option (Mem) :=
  if (mI σ 65 0) ≤ x2 then
    (some σ)
  else
    (grd (inb x2 17) <|
    letv (sI σ 109 (x2.toNatClampNeg) 0) fun σ18 =>
    bnd1 (f_Mo_has (mI σ18 65 1) x2) fun r24 =>
    bnd1 ((
      if r24 = 0 then
        (some σ18)
      else
        (grd (inb x2 17) <|
        if (mI σ18 66 (x2.toNatClampNeg)) = 1 then
          (bnd1 (f_Mo_feels N σ18 0) fun σ45 =>
          grd (inb x2 17) <|
          letv (sI σ45 85 7 (mI σ45 68 (x2.toNatClampNeg))) fun σ60 =>
          grd (inb x2 17) <|
          letv (sI σ60 85 8 (mI σ60 70 (x2.toNatClampNeg))) fun σ73 =>
          grd (inb x2 17) <|
          bnd2 (f_Mo_byLaw N σ73 103 0 9) fun r94 σ94 =>
          bnd1 (f_Mo_min (99 - (mI σ73 68 (x2.toNatClampNeg))) r94) fun r97 =>
          grd (inb x2 17) <|
          letv (sI σ94 109 (x2.toNatClampNeg) r97) fun σ100 =>
          some σ100)
        else
          (some σ18))) : Option (Mem)) fun σ27_ =>
    letv (x2 + 1) fun v101 =>
    rec v101 σ27_)
def L_Mo_year_l4 (N : Nat) (a1 : Int32) : Nat → Int32 → Mem → Option (Mem)
  | 0, _, _ => none
  | k + 1, x2, σ => B_Mo_year_l4 N a1 (L_Mo_year_l4 N a1 k) x2 σ
set_option maxHeartbeats 4000000 in
set_option maxRecDepth 20000 in
theorem cL_Mo_year_l4 (Z : ZX) {Y : YX} {Q : State → Prop} {N : Nat} {a1 : Int32} {Good : Mem → Prop} (hE : ∀ (σe : Mem), Good σe → V (mkB Z) Y m_Mo_year 3 Q 0 0 nC σe 107 [(0, rf Z 65), (1, .int a1)] []) : ∀ (k : Nat) (x2 : Int32) (σ : Mem) (res : Mem), L_Mo_year_l4 N a1 k x2 σ = some res → Good res → V (mkB Z) Y m_Mo_year 3 Q 0 0 nC σ 4 [(0, rf Z 65), (1, .int a1), (2, .int x2)] [] := by
  intro k
  induction k with
  | zero => intro x2 σ res h; cases h
  | succ k ih =>
    intro x2 σ res h hg
    replace h : B_Mo_year_l4 N a1 (L_Mo_year_l4 N a1 k) x2 σ = some res := h
    unfold B_Mo_year_l4 at h
    refine V.iload_n d_Mo_year_4 rfl 2 rfl ?_
    refine V.aload_n d_Mo_year_5 rfl 0 rfl ?_
    refine V.getI ok_Mo fl_Mo_167 (by decide) (by decide) ly_65 rfl d_Mo_year_6 ?_
    refine V.icmp_ge (tgt := 107) d_Mo_year_9 (by decide) (fun hc9 => ?_) (fun hc9 => ?_)
    · replace h := ite_t hc9 h
      cases h
      exact V.pick [0, 1] rfl (hE _ hg)
    · replace h := ite_f hc9 h
      refine V.aload_n d_Mo_year_12 rfl 0 rfl ?_
      refine V.getR (r := 109) ok_Mo fl_Mo_142 (by decide) (by decide) ly_65 rfl d_Mo_year_13 ?_
      refine V.iload_n d_Mo_year_16 rfl 2 rfl ?_
      refine V.iconst (v := 0) d_Mo_year_17 (by decide) ?_
      obtain ⟨gq, h⟩ := grd_e h
      obtain ⟨σ18, e_σ18, h⟩ := letv_e h
      refine V.wa (by decide) ly_109 (inb_e gq) rfl d_Mo_year_18 e_σ18 ?_
      refine V.aload_n d_Mo_year_19 rfl 0 rfl ?_
      refine V.getI ok_Mo fl_Mo_174 (by decide) (by decide) ly_65 rfl d_Mo_year_20 ?_
      refine V.iload_n d_Mo_year_23 rfl 2 rfl ?_
      obtain ⟨r24, h1, h⟩ := bnd1_e h
      refine V.sI (as := [.int (mI σ18 65 1), .int x2]) (st := []) (c_Mo_has Z h1) k_Mo_has lk_Mo_177 (by decide) rfl rfl (Nat.le_of_ble_eq_true rfl) d_Mo_year_24 ?_
      obtain ⟨s27, h1, h⟩ := bnd1_e h
      have J27_101 : ∀ (σ27_ : Mem), s27 = σ27_ → V (mkB Z) Y m_Mo_year 3 Q 0 0 nC σ27_ 101 [(0, rf Z 65), (1, .int a1), (2, .int x2)] [] := by
        intro σ27_ he
        rw [he] at h
        obtain ⟨v101, e_v101, h⟩ := letv_e h
        refine V.iinc (v := v101) (lv' := [(2, .int v101), (0, rf Z 65), (1, .int a1)]) d_Mo_year_101 2 rfl (by rw [e_v101]; rfl) (by decide) rfl ?_
        refine V.goto (tgt := 4) d_Mo_year_104 (by decide) ?_
        exact V.pick [1, 2, 0] rfl (ih _ _ _ h hg)
      replace h := h1
      refine V.if_eq (tgt := 101) d_Mo_year_27 (by decide) (fun hc27 => ?_) (fun hc27 => ?_)
      · replace h := ite_t hc27 h
        exact V.pick [0, 1, 2] rfl (J27_101 _ (Option.some.inj h).symm)
      · replace h := ite_f hc27 h
        refine V.aload_n d_Mo_year_30 rfl 0 rfl ?_
        refine V.getR (r := 66) ok_Mo fl_Mo_7 (by decide) (by decide) ly_65 rfl d_Mo_year_31 ?_
        refine V.iload_n d_Mo_year_34 rfl 2 rfl ?_
        obtain ⟨gq, h⟩ := grd_e h
        refine V.ra (by decide) ly_66 (inb_e gq) rfl d_Mo_year_35 ?_
        refine V.iconst (v := 1) d_Mo_year_36 (by decide) ?_
        refine V.icmp_eq (tgt := 43) d_Mo_year_37 (by decide) (fun hc37 => ?_) (fun hc37 => ?_)
        · replace h := ite_t hc37 h
          refine V.aload_n d_Mo_year_43 rfl 0 rfl ?_
          refine V.iconst (v := 0) d_Mo_year_44 (by decide) ?_
          obtain ⟨σ45, h1, h⟩ := bnd1_e h
          refine V.vN (as := [.int 0]) (st := []) (c_Mo_feels Z h1) k_Mo_feels lk_Mo_315 (by decide) rfl (by decide) ly_65 ok_Mo.1 rfl (Nat.le_of_ble_eq_true rfl) d_Mo_year_45 ?_
          refine V.aload_n d_Mo_year_48 rfl 0 rfl ?_
          refine V.getR (r := 85) ok_Mo fl_Mo_68 (by decide) (by decide) ly_65 rfl d_Mo_year_49 ?_
          refine V.bipush (v := 7) d_Mo_year_52 (by decide) ?_
          refine V.aload_n d_Mo_year_54 rfl 0 rfl ?_
          refine V.getR (r := 68) ok_Mo fl_Mo_16 (by decide) (by decide) ly_65 rfl d_Mo_year_55 ?_
          refine V.iload_n d_Mo_year_58 rfl 2 rfl ?_
          obtain ⟨gq, h⟩ := grd_e h
          refine V.ra (by decide) ly_68 (inb_e gq) rfl d_Mo_year_59 ?_
          obtain ⟨σ60, e_σ60, h⟩ := letv_e h
          refine V.wa (j := 7) (by decide) ly_85 (inb_e (by decide)) (by decide) d_Mo_year_60 e_σ60 ?_
          refine V.aload_n d_Mo_year_61 rfl 0 rfl ?_
          refine V.getR (r := 85) ok_Mo fl_Mo_68 (by decide) (by decide) ly_65 rfl d_Mo_year_62 ?_
          refine V.bipush (v := 8) d_Mo_year_65 (by decide) ?_
          refine V.aload_n d_Mo_year_67 rfl 0 rfl ?_
          refine V.getR (r := 70) ok_Mo fl_Mo_22 (by decide) (by decide) ly_65 rfl d_Mo_year_68 ?_
          refine V.iload_n d_Mo_year_71 rfl 2 rfl ?_
          obtain ⟨gq, h⟩ := grd_e h
          refine V.ra (by decide) ly_70 (inb_e gq) rfl d_Mo_year_72 ?_
          obtain ⟨σ73, e_σ73, h⟩ := letv_e h
          refine V.wa (j := 8) (by decide) ly_85 (inb_e (by decide)) (by decide) d_Mo_year_73 e_σ73 ?_
          refine V.aload_n d_Mo_year_74 rfl 0 rfl ?_
          refine V.getR (r := 109) ok_Mo fl_Mo_142 (by decide) (by decide) ly_65 rfl d_Mo_year_75 ?_
          refine V.iload_n d_Mo_year_78 rfl 2 rfl ?_
          refine V.bipush (v := 99) d_Mo_year_79 (by decide) ?_
          refine V.aload_n d_Mo_year_81 rfl 0 rfl ?_
          refine V.getR (r := 68) ok_Mo fl_Mo_16 (by decide) (by decide) ly_65 rfl d_Mo_year_82 ?_
          refine V.iload_n d_Mo_year_85 rfl 2 rfl ?_
          obtain ⟨gq, h⟩ := grd_e h
          refine V.ra (by decide) ly_68 (inb_e gq) rfl d_Mo_year_86 ?_
          refine V.isub d_Mo_year_87 ?_
          refine V.aload_n d_Mo_year_88 rfl 0 rfl ?_
          refine V.bipush (v := 103) d_Mo_year_89 (by decide) ?_
          refine V.iconst (v := 0) d_Mo_year_91 (by decide) ?_
          refine V.bipush (v := 9) d_Mo_year_92 (by decide) ?_
          obtain ⟨r94, σ94, h1, h⟩ := bnd2_e h
          refine V.vI (as := [.int 103, .int 0, .int 9]) (st := [.int (99 - (mI σ73 68 (x2.toNatClampNeg))), .int x2, rf Z 109]) (c_Mo_byLaw Z h1) k_Mo_byLaw lk_Mo_318 (by decide) rfl (by decide) ly_65 ok_Mo.1 rfl (Nat.le_of_ble_eq_true rfl) d_Mo_year_94 ?_
          obtain ⟨r97, h1, h⟩ := bnd1_e h
          refine V.sI (as := [.int (99 - (mI σ73 68 (x2.toNatClampNeg))), .int r94]) (st := [.int x2, rf Z 109]) (c_Mo_min Z h1) k_Mo_min lk_Mo_342 (by decide) rfl rfl (Nat.le_of_ble_eq_true rfl) d_Mo_year_97 ?_
          obtain ⟨gq, h⟩ := grd_e h
          obtain ⟨σ100, e_σ100, h⟩ := letv_e h
          refine V.wa (by decide) ly_109 (inb_e gq) rfl d_Mo_year_100 e_σ100 ?_
          exact V.pick [0, 1, 2] rfl (J27_101 _ (Option.some.inj h).symm)
        · replace h := ite_f hc37 h
          refine V.goto (tgt := 101) d_Mo_year_40 (by decide) ?_
          exact V.pick [0, 1, 2] rfl (J27_101 _ (Option.some.inj h).symm)
def B_Mo_year_l109 (N : Nat) (rec : Int32 → Int32 → Mem → Option (Int32 × Mem)) (x1 : Int32) (x2 : Int32) (σ : Mem) : Option (Int32 × Mem) :=
  if (mI σ 65 0) ≤ x2 then
    (some (x1, σ))
  else
    (grd (inb x2 17) <|
    grd (inb x2 17) <|
    grd (inb x2 17) <|
    letv (sI σ 68 (x2.toNatClampNeg) ((mI σ 68 (x2.toNatClampNeg)) + (mI σ 109 (x2.toNatClampNeg)))) fun σ135 =>
    grd (inb x2 17) <|
    letv (x1 + (mI σ135 109 (x2.toNatClampNeg))) fun v144 =>
    letv (x2 + 1) fun v145 =>
    rec v144 v145 σ135)
def L_Mo_year_l109 (N : Nat) : Nat → Int32 → Int32 → Mem → Option (Int32 × Mem)
  | 0, _, _, _ => none
  | k + 1, x1, x2, σ => B_Mo_year_l109 N (L_Mo_year_l109 N k) x1 x2 σ
set_option maxHeartbeats 4000000 in
set_option maxRecDepth 20000 in
theorem cL_Mo_year_l109 (Z : ZX) {Y : YX} {post : Option Value → Mem → Prop} {N : Nat} {Good : Int32 × Mem → Prop} (hR : ∀ (v : Int32) (σr : Mem), Good (v, σr) → post (some (.int v)) σr) : ∀ (k : Nat) (x1 : Int32) (x2 : Int32) (σ : Mem) (res : Int32 × Mem), L_Mo_year_l109 N k x1 x2 σ = some res → Good res → V (mkB Z) Y m_Mo_year 3 (QP (mkB Z) Y nC 0 0 post) 0 0 nC σ 109 [(0, rf Z 65), (1, .int x1), (2, .int x2)] [] := by
  intro k
  induction k with
  | zero => intro x1 x2 σ res h; cases h
  | succ k ih =>
    intro x1 x2 σ res h hg
    replace h : B_Mo_year_l109 N (L_Mo_year_l109 N k) x1 x2 σ = some res := h
    unfold B_Mo_year_l109 at h
    refine V.iload_n d_Mo_year_109 rfl 2 rfl ?_
    refine V.aload_n d_Mo_year_110 rfl 0 rfl ?_
    refine V.getI ok_Mo fl_Mo_167 (by decide) (by decide) ly_65 rfl d_Mo_year_111 ?_
    refine V.icmp_ge (tgt := 151) d_Mo_year_114 (by decide) (fun hc114 => ?_) (fun hc114 => ?_)
    · replace h := ite_t hc114 h
      refine V.iload_n d_Mo_year_151 rfl 1 rfl ?_
      cases h
      exact V.iret rfl d_Mo_year_152 (hR _ _ hg)
    · replace h := ite_f hc114 h
      refine V.aload_n d_Mo_year_117 rfl 0 rfl ?_
      refine V.getR (r := 68) ok_Mo fl_Mo_16 (by decide) (by decide) ly_65 rfl d_Mo_year_118 ?_
      refine V.iload_n d_Mo_year_121 rfl 2 rfl ?_
      refine V.aload_n d_Mo_year_122 rfl 0 rfl ?_
      refine V.getR (r := 68) ok_Mo fl_Mo_16 (by decide) (by decide) ly_65 rfl d_Mo_year_123 ?_
      refine V.iload_n d_Mo_year_126 rfl 2 rfl ?_
      obtain ⟨gq, h⟩ := grd_e h
      refine V.ra (by decide) ly_68 (inb_e gq) rfl d_Mo_year_127 ?_
      refine V.aload_n d_Mo_year_128 rfl 0 rfl ?_
      refine V.getR (r := 109) ok_Mo fl_Mo_142 (by decide) (by decide) ly_65 rfl d_Mo_year_129 ?_
      refine V.iload_n d_Mo_year_132 rfl 2 rfl ?_
      obtain ⟨gq, h⟩ := grd_e h
      refine V.ra (by decide) ly_109 (inb_e gq) rfl d_Mo_year_133 ?_
      refine V.iadd d_Mo_year_134 ?_
      obtain ⟨gq, h⟩ := grd_e h
      obtain ⟨σ135, e_σ135, h⟩ := letv_e h
      refine V.wa (by decide) ly_68 (inb_e gq) rfl d_Mo_year_135 e_σ135 ?_
      refine V.iload_n d_Mo_year_136 rfl 1 rfl ?_
      refine V.aload_n d_Mo_year_137 rfl 0 rfl ?_
      refine V.getR (r := 109) ok_Mo fl_Mo_142 (by decide) (by decide) ly_65 rfl d_Mo_year_138 ?_
      refine V.iload_n d_Mo_year_141 rfl 2 rfl ?_
      obtain ⟨gq, h⟩ := grd_e h
      refine V.ra (by decide) ly_109 (inb_e gq) rfl d_Mo_year_142 ?_
      refine V.iadd d_Mo_year_143 ?_
      obtain ⟨v144, e_v144, h⟩ := letv_e h
      refine V.topI e_v144 ?_
      refine V.istore_n (lv' := [(1, .int v144), (0, rf Z 65), (2, .int x2)]) d_Mo_year_144 rfl (by decide) rfl ?_
      obtain ⟨v145, e_v145, h⟩ := letv_e h
      refine V.iinc (v := v145) (lv' := [(2, .int v145), (1, .int v144), (0, rf Z 65)]) d_Mo_year_145 2 rfl (by rw [e_v145]; rfl) (by decide) rfl ?_
      refine V.goto (tgt := 109) d_Mo_year_148 (by decide) ?_
      exact V.pick [2, 1, 0] rfl (ih _ _ _ _ h hg)
def f_Mo_year (N : Nat) (σ : Mem) : Option (Int32 × Mem) :=
  bnd1 (L_Mo_year_l4 N 0 N 0 σ) fun σ4_ =>
  L_Mo_year_l109 N N 0 0 σ4_
set_option maxHeartbeats 4000000 in
set_option maxRecDepth 20000 in
theorem c_Mo_year (Z : ZX) {N : Nat} {σ : Mem} {r : Int32} {σ' : Mem} (h : f_Mo_year N σ = some (r, σ')) : CI Z 3 m_Mo_year [rf Z 65] σ r σ' := by
  refine Ct.of (by decide +kernel) (Nat.le_of_ble_eq_true rfl) (fun Y => ?_)
  show V (mkB Z) Y m_Mo_year 3 (QP (mkB Z) Y nC 0 0 (fun v t => v = some (.int r) ∧ t = σ')) 0 0 nC σ 0 [(0, rf Z 65)] []
  unfold f_Mo_year at h
  refine V.iconst (v := 0) d_Mo_year_0 (by decide) ?_
  refine V.istore_n (lv' := [(1, .int 0), (0, rf Z 65)]) d_Mo_year_1 rfl (by decide) rfl ?_
  refine V.iconst (v := 0) d_Mo_year_2 (by decide) ?_
  refine V.istore_n (lv' := [(2, .int 0), (1, .int 0), (0, rf Z 65)]) d_Mo_year_3 rfl (by decide) rfl ?_
  obtain ⟨x4_, h1, h⟩ := bnd1_e h
  refine V.pick [2, 1, 0] rfl (cL_Mo_year_l4 Z (Good := fun z => x4_ = z) (fun σ4_ he => ?_) N _ _ _ h1 rfl)
  · rw [he] at h
    refine V.iconst (v := 0) d_Mo_year_107 (by decide) ?_
    refine V.istore_n (lv' := [(2, .int 0), (0, rf Z 65), (1, .int 0)]) d_Mo_year_108 rfl (by decide) rfl ?_
    refine V.pick [1, 2, 0] rfl (cL_Mo_year_l109 Z (Good := fun z => z = _) (fun r109v r109m he => ?_) N _ _ _ _ h rfl)
    · cases he
      exact ⟨rfl, rfl⟩
abbrev m_Mo_years : MI := (⟨"ShadeTownModel", "years", "(I)I"⟩, prog_13_method_113_code, 4, (Option.some Jvm.ClassFile.FieldType.int))
theorem d_Mo_years_0 : decode prog_13_method_113_code 0 = .ok (.iload_n 1, 1) := by decide +kernel
theorem d_Mo_years_1 : decode prog_13_method_113_code 1 = .ok (.iconst 1, 1) := by decide +kernel
theorem d_Mo_years_2 : decode prog_13_method_113_code 2 = .ok (.bipush 60, 2) := by decide +kernel
theorem d_Mo_years_4 : decode prog_13_method_113_code 4 = .ok (.invokestatic 188, 3) := by decide +kernel
theorem d_Mo_years_12 : decode prog_13_method_113_code 12 = .ok (.iconst 0, 1) := by decide +kernel
theorem d_Mo_years_13 : decode prog_13_method_113_code 13 = .ok (.istore_n 2, 1) := by decide +kernel
theorem d_Mo_years_14 : decode prog_13_method_113_code 14 = .ok (.iconst 0, 1) := by decide +kernel
theorem d_Mo_years_15 : decode prog_13_method_113_code 15 = .ok (.istore_n 3, 1) := by decide +kernel
theorem d_Mo_years_16 : decode prog_13_method_113_code 16 = .ok (.iload_n 3, 1) := by decide +kernel
theorem d_Mo_years_17 : decode prog_13_method_113_code 17 = .ok (.iload_n 1, 1) := by decide +kernel
theorem d_Mo_years_34 : decode prog_13_method_113_code 34 = .ok (.iload_n 2, 1) := by decide +kernel
theorem d_Mo_years_35 : decode prog_13_method_113_code 35 = .ok (.ireturn, 1) := by decide +kernel
theorem d_Mo_years_21 : decode prog_13_method_113_code 21 = .ok (.iload_n 2, 1) := by decide +kernel
theorem d_Mo_years_22 : decode prog_13_method_113_code 22 = .ok (.aload_n 0, 1) := by decide +kernel
theorem d_Mo_years_23 : decode prog_13_method_113_code 23 = .ok (.invokevirtual 512, 3) := by decide +kernel
theorem k_Mo_year : MOk m_Mo_year 0 ∧ IOk m_Mo_year := ⟨⟨atG 2007 (by decide +kernel) rfl, atG 122 (by decide +kernel) rfl, ⟨by decide, by decide⟩, by decide +kernel, by decide⟩, atG 2006 (by decide +kernel) rfl, atG 106 (by decide +kernel) rfl⟩
theorem lk_Mo_512 : Cond.methodLink "ShadeTownModel" 512 ⟨"ShadeTownModel", "year", "()I"⟩ ∈ tblG := atG 2004 (by decide +kernel) rfl
theorem d_Mo_years_26 : decode prog_13_method_113_code 26 = .ok (.iadd, 1) := by decide +kernel
theorem d_Mo_years_27 : decode prog_13_method_113_code 27 = .ok (.istore_n 2, 1) := by decide +kernel
theorem d_Mo_years_28 : decode prog_13_method_113_code 28 = .ok (.iinc 3 1, 3) := by decide +kernel
theorem d_Mo_years_31 : decode prog_13_method_113_code 31 = .ok (.goto (-15), 3) := by decide +kernel
theorem d_Mo_years_18 : decode prog_13_method_113_code 18 = .ok (.if_icmp .ge 16, 3) := by decide +kernel
theorem d_Mo_years_10 : decode prog_13_method_113_code 10 = .ok (.iconst (-1), 1) := by decide +kernel
theorem d_Mo_years_11 : decode prog_13_method_113_code 11 = .ok (.ireturn, 1) := by decide +kernel
theorem d_Mo_years_7 : decode prog_13_method_113_code 7 = .ok (.ifCond .ne 5, 3) := by decide +kernel
def B_Mo_years_l16 (N : Nat) (a1 : Int32) (rec : Int32 → Int32 → Mem → Option (Int32 × Mem)) (x2 : Int32) (x3 : Int32) (σ : Mem) : Option (Int32 × Mem) :=
  if a1 ≤ x3 then
    (some (x2, σ))
  else
    (bnd2 (f_Mo_year N σ) fun r23 σ23 =>
    letv (x2 + r23) fun v27 =>
    letv (x3 + 1) fun v28 =>
    rec v27 v28 σ23)
def L_Mo_years_l16 (N : Nat) (a1 : Int32) : Nat → Int32 → Int32 → Mem → Option (Int32 × Mem)
  | 0, _, _, _ => none
  | k + 1, x2, x3, σ => B_Mo_years_l16 N a1 (L_Mo_years_l16 N a1 k) x2 x3 σ
set_option maxHeartbeats 4000000 in
set_option maxRecDepth 20000 in
theorem cL_Mo_years_l16 (Z : ZX) {Y : YX} {post : Option Value → Mem → Prop} {N : Nat} {a1 : Int32} {Good : Int32 × Mem → Prop} (hR : ∀ (v : Int32) (σr : Mem), Good (v, σr) → post (some (.int v)) σr) : ∀ (k : Nat) (x2 : Int32) (x3 : Int32) (σ : Mem) (res : Int32 × Mem), L_Mo_years_l16 N a1 k x2 x3 σ = some res → Good res → V (mkB Z) Y m_Mo_years 4 (QP (mkB Z) Y nC 0 0 post) 0 0 nC σ 16 [(0, rf Z 65), (1, .int a1), (2, .int x2), (3, .int x3)] [] := by
  intro k
  induction k with
  | zero => intro x2 x3 σ res h; cases h
  | succ k ih =>
    intro x2 x3 σ res h hg
    replace h : B_Mo_years_l16 N a1 (L_Mo_years_l16 N a1 k) x2 x3 σ = some res := h
    unfold B_Mo_years_l16 at h
    refine V.iload_n d_Mo_years_16 rfl 3 rfl ?_
    refine V.iload_n d_Mo_years_17 rfl 1 rfl ?_
    refine V.icmp_ge (tgt := 34) d_Mo_years_18 (by decide) (fun hc18 => ?_) (fun hc18 => ?_)
    · replace h := ite_t hc18 h
      refine V.iload_n d_Mo_years_34 rfl 2 rfl ?_
      cases h
      exact V.iret rfl d_Mo_years_35 (hR _ _ hg)
    · replace h := ite_f hc18 h
      refine V.iload_n d_Mo_years_21 rfl 2 rfl ?_
      refine V.aload_n d_Mo_years_22 rfl 0 rfl ?_
      obtain ⟨r23, σ23, h1, h⟩ := bnd2_e h
      refine V.vI (as := []) (st := [.int x2]) (c_Mo_year Z h1) k_Mo_year lk_Mo_512 (by decide) rfl (by decide) ly_65 ok_Mo.1 rfl (Nat.le_of_ble_eq_true rfl) d_Mo_years_23 ?_
      refine V.iadd d_Mo_years_26 ?_
      obtain ⟨v27, e_v27, h⟩ := letv_e h
      refine V.topI e_v27 ?_
      refine V.istore_n (lv' := [(2, .int v27), (0, rf Z 65), (1, .int a1), (3, .int x3)]) d_Mo_years_27 rfl (by decide) rfl ?_
      obtain ⟨v28, e_v28, h⟩ := letv_e h
      refine V.iinc (v := v28) (lv' := [(3, .int v28), (2, .int v27), (0, rf Z 65), (1, .int a1)]) d_Mo_years_28 3 rfl (by rw [e_v28]; rfl) (by decide) rfl ?_
      refine V.goto (tgt := 16) d_Mo_years_31 (by decide) ?_
      exact V.pick [2, 3, 1, 0] rfl (ih _ _ _ _ h hg)
def f_Mo_years (N : Nat) (σ : Mem) (a1 : Int32) : Option (Int32 × Mem) :=
  bnd1 (f_Mo_in a1 1 60) fun r4 =>
  if r4 = 0 then
    (some ((-1), σ))
  else
    (L_Mo_years_l16 N a1 N 0 0 σ)
set_option maxHeartbeats 4000000 in
set_option maxRecDepth 20000 in
theorem c_Mo_years (Z : ZX) {N : Nat} {σ : Mem} {a1 : Int32} {r : Int32} {σ' : Mem} (h : f_Mo_years N σ a1 = some (r, σ')) : CI Z 4 m_Mo_years [rf Z 65, .int a1] σ r σ' := by
  refine Ct.of (by decide +kernel) (Nat.le_of_ble_eq_true rfl) (fun Y => ?_)
  show V (mkB Z) Y m_Mo_years 4 (QP (mkB Z) Y nC 0 0 (fun v t => v = some (.int r) ∧ t = σ')) 0 0 nC σ 0 [(0, rf Z 65), (1, .int a1)] []
  unfold f_Mo_years at h
  refine V.iload_n d_Mo_years_0 rfl 1 rfl ?_
  refine V.iconst (v := 1) d_Mo_years_1 (by decide) ?_
  refine V.bipush (v := 60) d_Mo_years_2 (by decide) ?_
  obtain ⟨r4, h1, h⟩ := bnd1_e h
  refine V.sI (as := [.int a1, .int 1, .int 60]) (st := []) (c_Mo_in Z h1) k_Mo_in lk_Mo_188 (by decide) rfl rfl (Nat.le_of_ble_eq_true rfl) d_Mo_years_4 ?_
  refine V.if_ne (tgt := 12) d_Mo_years_7 (by decide) (fun hc7 => ?_) (fun hc7 => ?_)
  · replace h := ite_f hc7 h
    refine V.iconst (v := 0) d_Mo_years_12 (by decide) ?_
    refine V.istore_n (lv' := [(2, .int 0), (0, rf Z 65), (1, .int a1)]) d_Mo_years_13 rfl (by decide) rfl ?_
    refine V.iconst (v := 0) d_Mo_years_14 (by decide) ?_
    refine V.istore_n (lv' := [(3, .int 0), (2, .int 0), (0, rf Z 65), (1, .int a1)]) d_Mo_years_15 rfl (by decide) rfl ?_
    refine V.pick [2, 3, 1, 0] rfl (cL_Mo_years_l16 Z (Good := fun z => z = _) (fun r16v r16m he => ?_) N _ _ _ _ h rfl)
    · cases he
      exact ⟨rfl, rfl⟩
  · replace h := ite_t hc7 h
    refine V.iconst (v := (-1)) d_Mo_years_10 (by decide) ?_
    cases h
    exact V.iret rfl d_Mo_years_11 ⟨rfl, rfl⟩
abbrev m_Mo_pays : MI := (⟨"ShadeTownModel", "pays", "(II)I"⟩, prog_13_method_114_code, 6, (Option.some Jvm.ClassFile.FieldType.int))
theorem d_Mo_pays_0 : decode prog_13_method_114_code 0 = .ok (.aload_n 0, 1) := by decide +kernel
theorem d_Mo_pays_1 : decode prog_13_method_114_code 1 = .ok (.iload_n 1, 1) := by decide +kernel
theorem d_Mo_pays_2 : decode prog_13_method_114_code 2 = .ok (.iload_n 2, 1) := by decide +kernel
theorem d_Mo_pays_3 : decode prog_13_method_114_code 3 = .ok (.invokevirtual 373, 3) := by decide +kernel
theorem d_Mo_pays_6 : decode prog_13_method_114_code 6 = .ok (.istore_n 3, 1) := by decide +kernel
theorem d_Mo_pays_7 : decode prog_13_method_114_code 7 = .ok (.iload_n 3, 1) := by decide +kernel
theorem d_Mo_pays_13 : decode prog_13_method_114_code 13 = .ok (.aload_n 0, 1) := by decide +kernel
theorem d_Mo_pays_14 : decode prog_13_method_114_code 14 = .ok (.iload_n 2, 1) := by decide +kernel
theorem d_Mo_pays_15 : decode prog_13_method_114_code 15 = .ok (.iload_n 1, 1) := by decide +kernel
theorem d_Mo_pays_16 : decode prog_13_method_114_code 16 = .ok (.invokevirtual 379, 3) := by decide +kernel
theorem d_Mo_pays_19 : decode prog_13_method_114_code 19 = .ok (.iload_n 3, 1) := by decide +kernel
theorem d_Mo_pays_20 : decode prog_13_method_114_code 20 = .ok (.invokestatic 376, 3) := by decide +kernel
theorem d_Mo_pays_23 : decode prog_13_method_114_code 23 = .ok (.idiv, 1) := by decide +kernel
theorem d_Mo_pays_24 : decode prog_13_method_114_code 24 = .ok (.istore 4, 2) := by decide +kernel
theorem d_Mo_pays_26 : decode prog_13_method_114_code 26 = .ok (.iconst 0, 1) := by decide +kernel
theorem d_Mo_pays_27 : decode prog_13_method_114_code 27 = .ok (.istore 5, 2) := by decide +kernel
theorem d_Mo_pays_29 : decode prog_13_method_114_code 29 = .ok (.iload 5, 2) := by decide +kernel
theorem d_Mo_pays_31 : decode prog_13_method_114_code 31 = .ok (.aload_n 0, 1) := by decide +kernel
theorem d_Mo_pays_32 : decode prog_13_method_114_code 32 = .ok (.getfield 167, 3) := by decide +kernel
theorem d_Mo_pays_80 : decode prog_13_method_114_code 80 = .ok (.iload 4, 2) := by decide +kernel
theorem d_Mo_pays_82 : decode prog_13_method_114_code 82 = .ok (.iload_n 3, 1) := by decide +kernel
theorem d_Mo_pays_83 : decode prog_13_method_114_code 83 = .ok (.invokestatic 376, 3) := by decide +kernel
theorem d_Mo_pays_86 : decode prog_13_method_114_code 86 = .ok (.imul, 1) := by decide +kernel
theorem d_Mo_pays_87 : decode prog_13_method_114_code 87 = .ok (.ireturn, 1) := by decide +kernel
theorem d_Mo_pays_38 : decode prog_13_method_114_code 38 = .ok (.iload_n 3, 1) := by decide +kernel
theorem d_Mo_pays_39 : decode prog_13_method_114_code 39 = .ok (.iload 5, 2) := by decide +kernel
theorem d_Mo_pays_41 : decode prog_13_method_114_code 41 = .ok (.invokestatic 177, 3) := by decide +kernel
theorem d_Mo_pays_47 : decode prog_13_method_114_code 47 = .ok (.aload_n 0, 1) := by decide +kernel
theorem fl_Mo_25 : FL "ShadeTownModel" 25 T_Mo 9 := atG 1341 (by decide +kernel) rfl
theorem d_Mo_pays_48 : decode prog_13_method_114_code 48 = .ok (.getfield 25, 3) := by decide +kernel
theorem d_Mo_pays_51 : decode prog_13_method_114_code 51 = .ok (.aload_n 0, 1) := by decide +kernel
theorem d_Mo_pays_52 : decode prog_13_method_114_code 52 = .ok (.getfield 22, 3) := by decide +kernel
theorem d_Mo_pays_55 : decode prog_13_method_114_code 55 = .ok (.iload 5, 2) := by decide +kernel
theorem d_Mo_pays_57 : decode prog_13_method_114_code 57 = .ok (.iaload, 1) := by decide +kernel
theorem d_Mo_pays_58 : decode prog_13_method_114_code 58 = .ok (.aload_n 0, 1) := by decide +kernel
theorem d_Mo_pays_59 : decode prog_13_method_114_code 59 = .ok (.getfield 25, 3) := by decide +kernel
theorem d_Mo_pays_62 : decode prog_13_method_114_code 62 = .ok (.aload_n 0, 1) := by decide +kernel
theorem d_Mo_pays_63 : decode prog_13_method_114_code 63 = .ok (.getfield 22, 3) := by decide +kernel
theorem d_Mo_pays_66 : decode prog_13_method_114_code 66 = .ok (.iload 5, 2) := by decide +kernel
theorem d_Mo_pays_68 : decode prog_13_method_114_code 68 = .ok (.iaload, 1) := by decide +kernel
theorem d_Mo_pays_69 : decode prog_13_method_114_code 69 = .ok (.iaload, 1) := by decide +kernel
theorem d_Mo_pays_70 : decode prog_13_method_114_code 70 = .ok (.iload 4, 2) := by decide +kernel
theorem d_Mo_pays_72 : decode prog_13_method_114_code 72 = .ok (.iadd, 1) := by decide +kernel
theorem d_Mo_pays_73 : decode prog_13_method_114_code 73 = .ok (.iastore, 1) := by decide +kernel
theorem d_Mo_pays_44 : decode prog_13_method_114_code 44 = .ok (.ifCond .eq 30, 3) := by decide +kernel
theorem d_Mo_pays_74 : decode prog_13_method_114_code 74 = .ok (.iinc 5 1, 3) := by decide +kernel
theorem d_Mo_pays_77 : decode prog_13_method_114_code 77 = .ok (.goto (-48), 3) := by decide +kernel
theorem d_Mo_pays_35 : decode prog_13_method_114_code 35 = .ok (.if_icmp .ge 45, 3) := by decide +kernel
theorem d_Mo_pays_11 : decode prog_13_method_114_code 11 = .ok (.iconst 0, 1) := by decide +kernel
theorem d_Mo_pays_12 : decode prog_13_method_114_code 12 = .ok (.ireturn, 1) := by decide +kernel
theorem d_Mo_pays_8 : decode prog_13_method_114_code 8 = .ok (.ifCond .ne 5, 3) := by decide +kernel
def B_Mo_pays_l29 (N : Nat) (a3 : Int32) (a4 : Int32) (rec : Int32 → Mem → Option (Int32 × Mem)) (x5 : Int32) (σ : Mem) : Option (Int32 × Mem) :=
  if (mI σ 65 0) ≤ x5 then
    (bnd1 (f_Mo_bits N a3) fun r83 =>
    some (a4 * r83, σ))
  else
    (bnd1 (f_Mo_has a3 x5) fun r41 =>
    bnd1 ((
      if r41 = 0 then
        (some σ)
      else
        (grd (inb x5 17) <|
        grd (inb x5 17) <|
        grd (inb (mI σ 70 (x5.toNatClampNeg)) 6) <|
        grd (inb (mI σ 70 (x5.toNatClampNeg)) 6) <|
        letv (sI σ 71 ((mI σ 70 (x5.toNatClampNeg)).toNatClampNeg) ((mI σ 71 ((mI σ 70 (x5.toNatClampNeg)).toNatClampNeg)) + a4)) fun σ73 =>
        some σ73)) : Option (Mem)) fun σ44_ =>
    letv (x5 + 1) fun v74 =>
    rec v74 σ44_)
def L_Mo_pays_l29 (N : Nat) (a3 : Int32) (a4 : Int32) : Nat → Int32 → Mem → Option (Int32 × Mem)
  | 0, _, _ => none
  | k + 1, x5, σ => B_Mo_pays_l29 N a3 a4 (L_Mo_pays_l29 N a3 a4 k) x5 σ
set_option maxHeartbeats 4000000 in
set_option maxRecDepth 20000 in
theorem cL_Mo_pays_l29 (Z : ZX) {Y : YX} {post : Option Value → Mem → Prop} {N : Nat} {a3 : Int32} {a4 : Int32} {Good : Int32 × Mem → Prop} (hR : ∀ (v : Int32) (σr : Mem), Good (v, σr) → post (some (.int v)) σr) : ∀ (k : Nat) (x5 : Int32) (σ : Mem) (res : Int32 × Mem), L_Mo_pays_l29 N a3 a4 k x5 σ = some res → Good res → V (mkB Z) Y m_Mo_pays 4 (QP (mkB Z) Y nC 0 0 post) 0 0 nC σ 29 [(0, rf Z 65), (3, .int a3), (4, .int a4), (5, .int x5)] [] := by
  intro k
  induction k with
  | zero => intro x5 σ res h; cases h
  | succ k ih =>
    intro x5 σ res h hg
    replace h : B_Mo_pays_l29 N a3 a4 (L_Mo_pays_l29 N a3 a4 k) x5 σ = some res := h
    unfold B_Mo_pays_l29 at h
    refine V.iload d_Mo_pays_29 3 rfl ?_
    refine V.aload_n d_Mo_pays_31 rfl 0 rfl ?_
    refine V.getI ok_Mo fl_Mo_167 (by decide) (by decide) ly_65 rfl d_Mo_pays_32 ?_
    refine V.icmp_ge (tgt := 80) d_Mo_pays_35 (by decide) (fun hc35 => ?_) (fun hc35 => ?_)
    · replace h := ite_t hc35 h
      refine V.iload d_Mo_pays_80 2 rfl ?_
      refine V.iload_n d_Mo_pays_82 rfl 1 rfl ?_
      obtain ⟨r83, h1, h⟩ := bnd1_e h
      refine V.sI (as := [.int a3]) (st := [.int a4]) (c_Mo_bits Z h1) k_Mo_bits lk_Mo_376 (by decide) rfl rfl (Nat.le_of_ble_eq_true rfl) d_Mo_pays_83 ?_
      refine V.imul d_Mo_pays_86 ?_
      cases h
      exact V.iret rfl d_Mo_pays_87 (hR _ _ hg)
    · replace h := ite_f hc35 h
      refine V.iload_n d_Mo_pays_38 rfl 1 rfl ?_
      refine V.iload d_Mo_pays_39 3 rfl ?_
      obtain ⟨r41, h1, h⟩ := bnd1_e h
      refine V.sI (as := [.int a3, .int x5]) (st := []) (c_Mo_has Z h1) k_Mo_has lk_Mo_177 (by decide) rfl rfl (Nat.le_of_ble_eq_true rfl) d_Mo_pays_41 ?_
      obtain ⟨s44, h1, h⟩ := bnd1_e h
      have J44_74 : ∀ (σ44_ : Mem), s44 = σ44_ → V (mkB Z) Y m_Mo_pays 4 (QP (mkB Z) Y nC 0 0 post) 0 0 nC σ44_ 74 [(0, rf Z 65), (3, .int a3), (4, .int a4), (5, .int x5)] [] := by
        intro σ44_ he
        rw [he] at h
        obtain ⟨v74, e_v74, h⟩ := letv_e h
        refine V.iinc (v := v74) (lv' := [(5, .int v74), (0, rf Z 65), (3, .int a3), (4, .int a4)]) d_Mo_pays_74 3 rfl (by rw [e_v74]; rfl) (by decide) rfl ?_
        refine V.goto (tgt := 29) d_Mo_pays_77 (by decide) ?_
        exact V.pick [1, 2, 3, 0] rfl (ih _ _ _ h hg)
      replace h := h1
      refine V.if_eq (tgt := 74) d_Mo_pays_44 (by decide) (fun hc44 => ?_) (fun hc44 => ?_)
      · replace h := ite_t hc44 h
        exact V.pick [0, 1, 2, 3] rfl (J44_74 _ (Option.some.inj h).symm)
      · replace h := ite_f hc44 h
        refine V.aload_n d_Mo_pays_47 rfl 0 rfl ?_
        refine V.getR (r := 71) ok_Mo fl_Mo_25 (by decide) (by decide) ly_65 rfl d_Mo_pays_48 ?_
        refine V.aload_n d_Mo_pays_51 rfl 0 rfl ?_
        refine V.getR (r := 70) ok_Mo fl_Mo_22 (by decide) (by decide) ly_65 rfl d_Mo_pays_52 ?_
        refine V.iload d_Mo_pays_55 3 rfl ?_
        obtain ⟨gq, h⟩ := grd_e h
        refine V.ra (by decide) ly_70 (inb_e gq) rfl d_Mo_pays_57 ?_
        refine V.aload_n d_Mo_pays_58 rfl 0 rfl ?_
        refine V.getR (r := 71) ok_Mo fl_Mo_25 (by decide) (by decide) ly_65 rfl d_Mo_pays_59 ?_
        refine V.aload_n d_Mo_pays_62 rfl 0 rfl ?_
        refine V.getR (r := 70) ok_Mo fl_Mo_22 (by decide) (by decide) ly_65 rfl d_Mo_pays_63 ?_
        refine V.iload d_Mo_pays_66 3 rfl ?_
        obtain ⟨gq, h⟩ := grd_e h
        refine V.ra (by decide) ly_70 (inb_e gq) rfl d_Mo_pays_68 ?_
        obtain ⟨gq, h⟩ := grd_e h
        refine V.ra (by decide) ly_71 (inb_e gq) rfl d_Mo_pays_69 ?_
        refine V.iload d_Mo_pays_70 2 rfl ?_
        refine V.iadd d_Mo_pays_72 ?_
        obtain ⟨gq, h⟩ := grd_e h
        obtain ⟨σ73, e_σ73, h⟩ := letv_e h
        refine V.wa (by decide) ly_71 (inb_e gq) rfl d_Mo_pays_73 e_σ73 ?_
        exact V.pick [0, 1, 2, 3] rfl (J44_74 _ (Option.some.inj h).symm)
def f_Mo_pays (N : Nat) (σ : Mem) (a1 : Int32) (a2 : Int32) : Option (Int32 × Mem) :=
  bnd1 (f_Mo_whoOn σ a1 a2) fun r3 =>
  if r3 = 0 then
    (some (0, σ))
  else
    (bnd2 (f_Mo_priceOf N σ a2 a1) fun r16 σ16 =>
    bnd1 (f_Mo_bits N r3) fun r20 =>
    grd (decide (¬ r20 = 0)) <|
    letv (r16 / r20) fun v24 =>
    L_Mo_pays_l29 N r3 v24 N 0 σ16)
set_option maxHeartbeats 4000000 in
set_option maxRecDepth 20000 in
theorem c_Mo_pays (Z : ZX) {N : Nat} {σ : Mem} {a1 : Int32} {a2 : Int32} {r : Int32} {σ' : Mem} (h : f_Mo_pays N σ a1 a2 = some (r, σ')) : CI Z 4 m_Mo_pays [rf Z 65, .int a1, .int a2] σ r σ' := by
  refine Ct.of (by decide +kernel) (Nat.le_of_ble_eq_true rfl) (fun Y => ?_)
  show V (mkB Z) Y m_Mo_pays 4 (QP (mkB Z) Y nC 0 0 (fun v t => v = some (.int r) ∧ t = σ')) 0 0 nC σ 0 [(0, rf Z 65), (1, .int a1), (2, .int a2)] []
  unfold f_Mo_pays at h
  refine V.aload_n d_Mo_pays_0 rfl 0 rfl ?_
  refine V.iload_n d_Mo_pays_1 rfl 1 rfl ?_
  refine V.iload_n d_Mo_pays_2 rfl 2 rfl ?_
  obtain ⟨r3, h1, h⟩ := bnd1_e h
  refine V.vI (as := [.int a1, .int a2]) (st := []) (c_Mo_whoOn Z h1) k_Mo_whoOn lk_Mo_373 (by decide) rfl (by decide) ly_65 ok_Mo.1 rfl (Nat.le_of_ble_eq_true rfl) d_Mo_pays_3 ?_
  refine V.istore_n (lv' := [(3, .int r3), (0, rf Z 65), (1, .int a1), (2, .int a2)]) d_Mo_pays_6 rfl (by decide) rfl ?_
  refine V.iload_n d_Mo_pays_7 rfl 0 rfl ?_
  refine V.if_ne (tgt := 13) d_Mo_pays_8 (by decide) (fun hc8 => ?_) (fun hc8 => ?_)
  · replace h := ite_f hc8 h
    refine V.aload_n d_Mo_pays_13 rfl 1 rfl ?_
    refine V.iload_n d_Mo_pays_14 rfl 3 rfl ?_
    refine V.iload_n d_Mo_pays_15 rfl 2 rfl ?_
    obtain ⟨r16, σ16, h1, h⟩ := bnd2_e h
    refine V.vI (as := [.int a2, .int a1]) (st := []) (c_Mo_priceOf Z h1) k_Mo_priceOf lk_Mo_379 (by decide) rfl (by decide) ly_65 ok_Mo.1 rfl (Nat.le_of_ble_eq_true rfl) d_Mo_pays_16 ?_
    refine V.iload_n d_Mo_pays_19 rfl 0 rfl ?_
    obtain ⟨r20, h1, h⟩ := bnd1_e h
    refine V.sI (as := [.int r3]) (st := [.int r16]) (c_Mo_bits Z h1) k_Mo_bits lk_Mo_376 (by decide) rfl rfl (Nat.le_of_ble_eq_true rfl) d_Mo_pays_20 ?_
    obtain ⟨gq, h⟩ := grd_e h
    refine V.idiv d_Mo_pays_23 (of_decide_eq_true gq) ?_
    obtain ⟨v24, e_v24, h⟩ := letv_e h
    refine V.topI e_v24 ?_
    refine V.istore (lv' := [(4, .int v24), (3, .int r3), (0, rf Z 65), (1, .int a1), (2, .int a2)]) d_Mo_pays_24 (by decide) rfl ?_
    refine V.iconst (v := 0) d_Mo_pays_26 (by decide) ?_
    refine V.istore (lv' := [(5, .int 0), (4, .int v24), (3, .int r3), (0, rf Z 65), (1, .int a1), (2, .int a2)]) d_Mo_pays_27 (by decide) rfl ?_
    refine V.pick [3, 2, 1, 0] rfl (cL_Mo_pays_l29 Z (Good := fun z => z = _) (fun r29v r29m he => ?_) N _ _ _ h rfl)
    · cases he
      exact ⟨rfl, rfl⟩
  · replace h := ite_t hc8 h
    refine V.iconst (v := 0) d_Mo_pays_11 (by decide) ?_
    cases h
    exact V.iret rfl d_Mo_pays_12 ⟨rfl, rfl⟩
abbrev m_Mo_dayPays : MI := (⟨"ShadeTownModel", "dayPays", "()I"⟩, prog_13_method_115_code, 4, (Option.some Jvm.ClassFile.FieldType.int))
theorem d_Mo_dayPays_0 : decode prog_13_method_115_code 0 = .ok (.iconst 0, 1) := by decide +kernel
theorem d_Mo_dayPays_1 : decode prog_13_method_115_code 1 = .ok (.istore_n 1, 1) := by decide +kernel
theorem d_Mo_dayPays_2 : decode prog_13_method_115_code 2 = .ok (.iconst 0, 1) := by decide +kernel
theorem d_Mo_dayPays_3 : decode prog_13_method_115_code 3 = .ok (.istore_n 2, 1) := by decide +kernel
theorem d_Mo_dayPays_4 : decode prog_13_method_115_code 4 = .ok (.iload_n 2, 1) := by decide +kernel
theorem d_Mo_dayPays_5 : decode prog_13_method_115_code 5 = .ok (.bipush 24, 2) := by decide +kernel
theorem d_Mo_dayPays_87 : decode prog_13_method_115_code 87 = .ok (.iload_n 1, 1) := by decide +kernel
theorem d_Mo_dayPays_88 : decode prog_13_method_115_code 88 = .ok (.ireturn, 1) := by decide +kernel
theorem d_Mo_dayPays_10 : decode prog_13_method_115_code 10 = .ok (.aload_n 0, 1) := by decide +kernel
theorem d_Mo_dayPays_11 : decode prog_13_method_115_code 11 = .ok (.sipush 25173, 3) := by decide +kernel
theorem d_Mo_dayPays_14 : decode prog_13_method_115_code 14 = .ok (.aload_n 0, 1) := by decide +kernel
theorem fl_Mo_163 : FL "ShadeTownModel" 163 T_Mo 3 := atG 1335 (by decide +kernel) rfl
theorem d_Mo_dayPays_15 : decode prog_13_method_115_code 15 = .ok (.getfield 163, 3) := by decide +kernel
theorem d_Mo_dayPays_18 : decode prog_13_method_115_code 18 = .ok (.imul, 1) := by decide +kernel
theorem d_Mo_dayPays_19 : decode prog_13_method_115_code 19 = .ok (.sipush 13849, 3) := by decide +kernel
theorem d_Mo_dayPays_22 : decode prog_13_method_115_code 22 = .ok (.iadd, 1) := by decide +kernel
theorem kc_Mo_515 : Cond.constant "ShadeTownModel" 515 (65536) ∈ tblG := atG 2016 (by decide +kernel) rfl
theorem d_Mo_dayPays_23 : decode prog_13_method_115_code 23 = .ok (.ldc_w 515, 3) := by decide +kernel
theorem d_Mo_dayPays_26 : decode prog_13_method_115_code 26 = .ok (.irem, 1) := by decide +kernel
theorem d_Mo_dayPays_27 : decode prog_13_method_115_code 27 = .ok (.putfield 163, 3) := by decide +kernel
theorem d_Mo_dayPays_30 : decode prog_13_method_115_code 30 = .ok (.aload_n 0, 1) := by decide +kernel
theorem d_Mo_dayPays_31 : decode prog_13_method_115_code 31 = .ok (.getfield 74, 3) := by decide +kernel
theorem d_Mo_dayPays_34 : decode prog_13_method_115_code 34 = .ok (.iload_n 2, 1) := by decide +kernel
theorem d_Mo_dayPays_35 : decode prog_13_method_115_code 35 = .ok (.baload, 1) := by decide +kernel
theorem d_Mo_dayPays_39 : decode prog_13_method_115_code 39 = .ok (.aload_n 0, 1) := by decide +kernel
theorem d_Mo_dayPays_40 : decode prog_13_method_115_code 40 = .ok (.getfield 163, 3) := by decide +kernel
theorem d_Mo_dayPays_43 : decode prog_13_method_115_code 43 = .ok (.bipush 10, 2) := by decide +kernel
theorem d_Mo_dayPays_45 : decode prog_13_method_115_code 45 = .ok (.irem, 1) := by decide +kernel
theorem d_Mo_dayPays_46 : decode prog_13_method_115_code 46 = .ok (.aload_n 0, 1) := by decide +kernel
theorem d_Mo_dayPays_47 : decode prog_13_method_115_code 47 = .ok (.iload_n 2, 1) := by decide +kernel
theorem d_Mo_dayPays_48 : decode prog_13_method_115_code 48 = .ok (.invokevirtual 333, 3) := by decide +kernel
theorem d_Mo_dayPays_57 : decode prog_13_method_115_code 57 = .ok (.iconst 0, 1) := by decide +kernel
theorem d_Mo_dayPays_58 : decode prog_13_method_115_code 58 = .ok (.istore_n 3, 1) := by decide +kernel
theorem d_Mo_dayPays_59 : decode prog_13_method_115_code 59 = .ok (.iload_n 3, 1) := by decide +kernel
theorem d_Mo_dayPays_60 : decode prog_13_method_115_code 60 = .ok (.sipush 144, 3) := by decide +kernel
theorem d_Mo_dayPays_66 : decode prog_13_method_115_code 66 = .ok (.iload_n 1, 1) := by decide +kernel
theorem d_Mo_dayPays_67 : decode prog_13_method_115_code 67 = .ok (.aload_n 0, 1) := by decide +kernel
theorem d_Mo_dayPays_68 : decode prog_13_method_115_code 68 = .ok (.iload_n 2, 1) := by decide +kernel
theorem d_Mo_dayPays_69 : decode prog_13_method_115_code 69 = .ok (.iload_n 3, 1) := by decide +kernel
theorem d_Mo_dayPays_70 : decode prog_13_method_115_code 70 = .ok (.invokevirtual 516, 3) := by decide +kernel
theorem k_Mo_pays : MOk m_Mo_pays 2 ∧ IOk m_Mo_pays := ⟨⟨atG 2020 (by decide +kernel) rfl, atG 122 (by decide +kernel) rfl, ⟨by decide, by decide⟩, by decide +kernel, by decide⟩, atG 2019 (by decide +kernel) rfl, atG 108 (by decide +kernel) rfl⟩
theorem lk_Mo_516 : Cond.methodLink "ShadeTownModel" 516 ⟨"ShadeTownModel", "pays", "(II)I"⟩ ∈ tblG := atG 2017 (by decide +kernel) rfl
theorem d_Mo_dayPays_73 : decode prog_13_method_115_code 73 = .ok (.iadd, 1) := by decide +kernel
theorem d_Mo_dayPays_74 : decode prog_13_method_115_code 74 = .ok (.istore_n 1, 1) := by decide +kernel
theorem d_Mo_dayPays_75 : decode prog_13_method_115_code 75 = .ok (.iinc 3 1, 3) := by decide +kernel
theorem d_Mo_dayPays_78 : decode prog_13_method_115_code 78 = .ok (.goto (-19), 3) := by decide +kernel
theorem d_Mo_dayPays_63 : decode prog_13_method_115_code 63 = .ok (.if_icmp .ge 18, 3) := by decide +kernel
theorem d_Mo_dayPays_54 : decode prog_13_method_115_code 54 = .ok (.goto 27, 3) := by decide +kernel
theorem d_Mo_dayPays_51 : decode prog_13_method_115_code 51 = .ok (.if_icmp .ge 6, 3) := by decide +kernel
theorem d_Mo_dayPays_36 : decode prog_13_method_115_code 36 = .ok (.ifCond .eq 45, 3) := by decide +kernel
theorem d_Mo_dayPays_81 : decode prog_13_method_115_code 81 = .ok (.iinc 2 1, 3) := by decide +kernel
theorem d_Mo_dayPays_84 : decode prog_13_method_115_code 84 = .ok (.goto (-80), 3) := by decide +kernel
theorem d_Mo_dayPays_7 : decode prog_13_method_115_code 7 = .ok (.if_icmp .ge 80, 3) := by decide +kernel
def B_Mo_dayPays_l59 (N : Nat) (a2 : Int32) (rec : Int32 → Int32 → Mem → Option (Int32 × Mem)) (x1 : Int32) (x3 : Int32) (σ : Mem) : Option (Int32 × Mem) :=
  if 144 ≤ x3 then
    (some (x1, σ))
  else
    (bnd2 (f_Mo_pays N σ a2 x3) fun r70 σ70 =>
    letv (x1 + r70) fun v74 =>
    letv (x3 + 1) fun v75 =>
    rec v74 v75 σ70)
def L_Mo_dayPays_l59 (N : Nat) (a2 : Int32) : Nat → Int32 → Int32 → Mem → Option (Int32 × Mem)
  | 0, _, _, _ => none
  | k + 1, x1, x3, σ => B_Mo_dayPays_l59 N a2 (L_Mo_dayPays_l59 N a2 k) x1 x3 σ
set_option maxHeartbeats 4000000 in
set_option maxRecDepth 20000 in
theorem cL_Mo_dayPays_l59 (Z : ZX) {Y : YX} {Q : State → Prop} {N : Nat} {a2 : Int32} {Good : Int32 × Mem → Prop} (hE : ∀ (o1 : Int32) (σe : Mem), Good (o1, σe) → V (mkB Z) Y m_Mo_dayPays 5 Q 0 0 nC σe 81 [(0, rf Z 65), (1, .int o1), (2, .int a2)] []) : ∀ (k : Nat) (x1 : Int32) (x3 : Int32) (σ : Mem) (res : Int32 × Mem), L_Mo_dayPays_l59 N a2 k x1 x3 σ = some res → Good res → V (mkB Z) Y m_Mo_dayPays 5 Q 0 0 nC σ 59 [(0, rf Z 65), (1, .int x1), (2, .int a2), (3, .int x3)] [] := by
  intro k
  induction k with
  | zero => intro x1 x3 σ res h; cases h
  | succ k ih =>
    intro x1 x3 σ res h hg
    replace h : B_Mo_dayPays_l59 N a2 (L_Mo_dayPays_l59 N a2 k) x1 x3 σ = some res := h
    unfold B_Mo_dayPays_l59 at h
    refine V.iload_n d_Mo_dayPays_59 rfl 3 rfl ?_
    refine V.sipush (v := 144) d_Mo_dayPays_60 (by decide) ?_
    refine V.icmp_ge (tgt := 81) d_Mo_dayPays_63 (by decide) (fun hc63 => ?_) (fun hc63 => ?_)
    · replace h := ite_t hc63 h
      cases h
      exact V.pick [0, 1, 2] rfl (hE _ _ hg)
    · replace h := ite_f hc63 h
      refine V.iload_n d_Mo_dayPays_66 rfl 1 rfl ?_
      refine V.aload_n d_Mo_dayPays_67 rfl 0 rfl ?_
      refine V.iload_n d_Mo_dayPays_68 rfl 2 rfl ?_
      refine V.iload_n d_Mo_dayPays_69 rfl 3 rfl ?_
      obtain ⟨r70, σ70, h1, h⟩ := bnd2_e h
      refine V.vI (as := [.int a2, .int x3]) (st := [.int x1]) (c_Mo_pays Z h1) k_Mo_pays lk_Mo_516 (by decide) rfl (by decide) ly_65 ok_Mo.1 rfl (Nat.le_of_ble_eq_true rfl) d_Mo_dayPays_70 ?_
      refine V.iadd d_Mo_dayPays_73 ?_
      obtain ⟨v74, e_v74, h⟩ := letv_e h
      refine V.topI e_v74 ?_
      refine V.istore_n (lv' := [(1, .int v74), (0, rf Z 65), (2, .int a2), (3, .int x3)]) d_Mo_dayPays_74 rfl (by decide) rfl ?_
      obtain ⟨v75, e_v75, h⟩ := letv_e h
      refine V.iinc (v := v75) (lv' := [(3, .int v75), (1, .int v74), (0, rf Z 65), (2, .int a2)]) d_Mo_dayPays_75 3 rfl (by rw [e_v75]; rfl) (by decide) rfl ?_
      refine V.goto (tgt := 59) d_Mo_dayPays_78 (by decide) ?_
      exact V.pick [2, 1, 3, 0] rfl (ih _ _ _ _ h hg)
def B_Mo_dayPays_l4 (N : Nat) (rec : Int32 → Int32 → Mem → Option (Int32 × Mem)) (x1 : Int32) (x2 : Int32) (σ : Mem) : Option (Int32 × Mem) :=
  if 24 ≤ x2 then
    (some (x1, σ))
  else
    (letv (sI σ 65 3 (((25173 * (mI σ 65 3)) + 13849) - ((25173 * (mI σ 65 3)) + 13849) / 65536 * 65536)) fun σ27 =>
    grd (inb x2 24) <|
    bnd1 ((
      if (mI σ27 87 (x2.toNatClampNeg)) = 0 then
        (some (x1, σ27))
      else
        (bnd2 (f_Mo_cloudsIn N σ27 x2) fun r48 σ48 =>
        if r48 ≤ (mI σ27 65 3) - (mI σ27 65 3) / 10 * 10 then
          (bnd1 (L_Mo_dayPays_l59 N x2 N x1 0 σ48) fun x59_ =>
          q2 x59_ fun z59_1 σ59_ =>
          some (z59_1, σ59_))
        else
          (some (x1, σ48)))) : Option (Int32 × Mem)) fun s36 =>
    q2 s36 fun y36_1 σ36_ =>
    letv (x2 + 1) fun v81 =>
    rec y36_1 v81 σ36_)
def L_Mo_dayPays_l4 (N : Nat) : Nat → Int32 → Int32 → Mem → Option (Int32 × Mem)
  | 0, _, _, _ => none
  | k + 1, x1, x2, σ => B_Mo_dayPays_l4 N (L_Mo_dayPays_l4 N k) x1 x2 σ
set_option maxHeartbeats 4000000 in
set_option maxRecDepth 20000 in
theorem cL_Mo_dayPays_l4 (Z : ZX) {Y : YX} {post : Option Value → Mem → Prop} {N : Nat} {Good : Int32 × Mem → Prop} (hR : ∀ (v : Int32) (σr : Mem), Good (v, σr) → post (some (.int v)) σr) : ∀ (k : Nat) (x1 : Int32) (x2 : Int32) (σ : Mem) (res : Int32 × Mem), L_Mo_dayPays_l4 N k x1 x2 σ = some res → Good res → V (mkB Z) Y m_Mo_dayPays 5 (QP (mkB Z) Y nC 0 0 post) 0 0 nC σ 4 [(0, rf Z 65), (1, .int x1), (2, .int x2)] [] := by
  intro k
  induction k with
  | zero => intro x1 x2 σ res h; cases h
  | succ k ih =>
    intro x1 x2 σ res h hg
    replace h : B_Mo_dayPays_l4 N (L_Mo_dayPays_l4 N k) x1 x2 σ = some res := h
    unfold B_Mo_dayPays_l4 at h
    refine V.iload_n d_Mo_dayPays_4 rfl 2 rfl ?_
    refine V.bipush (v := 24) d_Mo_dayPays_5 (by decide) ?_
    refine V.icmp_ge (tgt := 87) d_Mo_dayPays_7 (by decide) (fun hc7 => ?_) (fun hc7 => ?_)
    · replace h := ite_t hc7 h
      refine V.iload_n d_Mo_dayPays_87 rfl 1 rfl ?_
      cases h
      exact V.iret rfl d_Mo_dayPays_88 (hR _ _ hg)
    · replace h := ite_f hc7 h
      refine V.aload_n d_Mo_dayPays_10 rfl 0 rfl ?_
      refine V.sipush (v := 25173) d_Mo_dayPays_11 (by decide) ?_
      refine V.aload_n d_Mo_dayPays_14 rfl 0 rfl ?_
      refine V.getI ok_Mo fl_Mo_163 (by decide) (by decide) ly_65 rfl d_Mo_dayPays_15 ?_
      refine V.imul d_Mo_dayPays_18 ?_
      refine V.sipush (v := 13849) d_Mo_dayPays_19 (by decide) ?_
      refine V.iadd d_Mo_dayPays_22 ?_
      refine V.ldcw (v := 65536) kc_Mo_515 d_Mo_dayPays_23 ?_
      refine V.irem d_Mo_dayPays_26 (by decide) ?_
      obtain ⟨σ27, e_σ27, h⟩ := letv_e h
      refine V.putI ok_Mo fl_Mo_163 (by decide) (by decide) ly_65 rfl rfl rfl rfl d_Mo_dayPays_27 (V.mem e_σ27 ?_)
      refine V.aload_n d_Mo_dayPays_30 rfl 0 rfl ?_
      refine V.getR (r := 87) ok_Mo fl_Mo_74 (by decide) (by decide) ly_65 rfl d_Mo_dayPays_31 ?_
      refine V.iload_n d_Mo_dayPays_34 rfl 2 rfl ?_
      obtain ⟨gq, h⟩ := grd_e h
      refine V.rz (by decide) ly_87 (inb_e gq) rfl d_Mo_dayPays_35 ?_
      obtain ⟨s36, h1, h⟩ := bnd1_e h
      have J36_81 : ∀ (y36_1 : Int32) (σ36_ : Mem), s36 = (y36_1, σ36_) → V (mkB Z) Y m_Mo_dayPays 5 (QP (mkB Z) Y nC 0 0 post) 0 0 nC σ36_ 81 [(0, rf Z 65), (1, .int y36_1), (2, .int x2)] [] := by
        intro y36_1 σ36_ he
        rw [he] at h
        replace h := q2_e h
        obtain ⟨v81, e_v81, h⟩ := letv_e h
        refine V.iinc (v := v81) (lv' := [(2, .int v81), (0, rf Z 65), (1, .int y36_1)]) d_Mo_dayPays_81 2 rfl (by rw [e_v81]; rfl) (by decide) rfl ?_
        refine V.goto (tgt := 4) d_Mo_dayPays_84 (by decide) ?_
        exact V.pick [1, 2, 0] rfl (ih _ _ _ _ h hg)
      replace h := h1
      refine V.if_eq (tgt := 81) d_Mo_dayPays_36 (by decide) (fun hc36 => ?_) (fun hc36 => ?_)
      · replace h := ite_t hc36 h
        exact V.pick [0, 1, 2] rfl (J36_81 _ _ (Option.some.inj h).symm)
      · replace h := ite_f hc36 h
        refine V.aload_n d_Mo_dayPays_39 rfl 0 rfl ?_
        refine V.getI ok_Mo fl_Mo_163 (by decide) (by decide) ly_65 rfl d_Mo_dayPays_40 ?_
        refine V.bipush (v := 10) d_Mo_dayPays_43 (by decide) ?_
        refine V.irem d_Mo_dayPays_45 (by decide) ?_
        refine V.aload_n d_Mo_dayPays_46 rfl 0 rfl ?_
        refine V.iload_n d_Mo_dayPays_47 rfl 2 rfl ?_
        obtain ⟨r48, σ48, h1, h⟩ := bnd2_e h
        refine V.vI (as := [.int x2]) (st := [.int ((mI σ27 65 3) - (mI σ27 65 3) / 10 * 10)]) (c_Mo_cloudsIn Z h1) k_Mo_cloudsIn lk_Mo_333 (by decide) rfl (by decide) ly_65 ok_Mo.1 rfl (Nat.le_of_ble_eq_true rfl) d_Mo_dayPays_48 ?_
        refine V.icmp_ge (tgt := 57) d_Mo_dayPays_51 (by decide) (fun hc51 => ?_) (fun hc51 => ?_)
        · replace h := ite_t hc51 h
          refine V.iconst (v := 0) d_Mo_dayPays_57 (by decide) ?_
          refine V.istore_n (lv' := [(3, .int 0), (0, rf Z 65), (1, .int x1), (2, .int x2)]) d_Mo_dayPays_58 rfl (by decide) rfl ?_
          obtain ⟨x59_, h1, h⟩ := bnd1_e h
          refine V.pick [1, 2, 3, 0] rfl (cL_Mo_dayPays_l59 Z (Good := fun z => x59_ = z) (fun z59_1 σ59_ he => ?_) N _ _ _ _ h1 rfl)
          · rw [he] at h
            replace h := q2_e h
            exact V.pick [0, 1, 2] rfl (J36_81 _ _ (Option.some.inj h).symm)
        · replace h := ite_f hc51 h
          refine V.goto (tgt := 81) d_Mo_dayPays_54 (by decide) ?_
          exact V.pick [0, 1, 2] rfl (J36_81 _ _ (Option.some.inj h).symm)
def f_Mo_dayPays (N : Nat) (σ : Mem) : Option (Int32 × Mem) :=
  L_Mo_dayPays_l4 N N 0 0 σ
set_option maxHeartbeats 4000000 in
set_option maxRecDepth 20000 in
theorem c_Mo_dayPays (Z : ZX) {N : Nat} {σ : Mem} {r : Int32} {σ' : Mem} (h : f_Mo_dayPays N σ = some (r, σ')) : CI Z 5 m_Mo_dayPays [rf Z 65] σ r σ' := by
  refine Ct.of (by decide +kernel) (Nat.le_of_ble_eq_true rfl) (fun Y => ?_)
  show V (mkB Z) Y m_Mo_dayPays 5 (QP (mkB Z) Y nC 0 0 (fun v t => v = some (.int r) ∧ t = σ')) 0 0 nC σ 0 [(0, rf Z 65)] []
  unfold f_Mo_dayPays at h
  refine V.iconst (v := 0) d_Mo_dayPays_0 (by decide) ?_
  refine V.istore_n (lv' := [(1, .int 0), (0, rf Z 65)]) d_Mo_dayPays_1 rfl (by decide) rfl ?_
  refine V.iconst (v := 0) d_Mo_dayPays_2 (by decide) ?_
  refine V.istore_n (lv' := [(2, .int 0), (1, .int 0), (0, rf Z 65)]) d_Mo_dayPays_3 rfl (by decide) rfl ?_
  refine V.pick [2, 1, 0] rfl (cL_Mo_dayPays_l4 Z (Good := fun z => z = _) (fun r4v r4m he => ?_) N _ _ _ _ h rfl)
  · cases he
    exact ⟨rfl, rfl⟩
abbrev m_Mo_days : MI := (⟨"ShadeTownModel", "days", "(I)I"⟩, prog_13_method_116_code, 4, (Option.some Jvm.ClassFile.FieldType.int))
theorem d_Mo_days_0 : decode prog_13_method_116_code 0 = .ok (.iload_n 1, 1) := by decide +kernel
theorem d_Mo_days_1 : decode prog_13_method_116_code 1 = .ok (.iconst 1, 1) := by decide +kernel
theorem d_Mo_days_2 : decode prog_13_method_116_code 2 = .ok (.bipush 30, 2) := by decide +kernel
theorem d_Mo_days_4 : decode prog_13_method_116_code 4 = .ok (.invokestatic 188, 3) := by decide +kernel
theorem d_Mo_days_12 : decode prog_13_method_116_code 12 = .ok (.aload_n 0, 1) := by decide +kernel
theorem d_Mo_days_13 : decode prog_13_method_116_code 13 = .ok (.invokevirtual 370, 3) := by decide +kernel
theorem d_Mo_days_16 : decode prog_13_method_116_code 16 = .ok (.iconst 0, 1) := by decide +kernel
theorem d_Mo_days_17 : decode prog_13_method_116_code 17 = .ok (.istore_n 2, 1) := by decide +kernel
theorem d_Mo_days_18 : decode prog_13_method_116_code 18 = .ok (.iconst 0, 1) := by decide +kernel
theorem d_Mo_days_19 : decode prog_13_method_116_code 19 = .ok (.istore_n 3, 1) := by decide +kernel
theorem d_Mo_days_20 : decode prog_13_method_116_code 20 = .ok (.iload_n 3, 1) := by decide +kernel
theorem d_Mo_days_21 : decode prog_13_method_116_code 21 = .ok (.iload_n 1, 1) := by decide +kernel
theorem d_Mo_days_38 : decode prog_13_method_116_code 38 = .ok (.iload_n 2, 1) := by decide +kernel
theorem d_Mo_days_39 : decode prog_13_method_116_code 39 = .ok (.ireturn, 1) := by decide +kernel
theorem d_Mo_days_25 : decode prog_13_method_116_code 25 = .ok (.iload_n 2, 1) := by decide +kernel
theorem d_Mo_days_26 : decode prog_13_method_116_code 26 = .ok (.aload_n 0, 1) := by decide +kernel
theorem d_Mo_days_27 : decode prog_13_method_116_code 27 = .ok (.invokevirtual 519, 3) := by decide +kernel
theorem k_Mo_dayPays : MOk m_Mo_dayPays 0 ∧ IOk m_Mo_dayPays := ⟨⟨atG 2015 (by decide +kernel) rfl, atG 122 (by decide +kernel) rfl, ⟨by decide, by decide⟩, by decide +kernel, by decide⟩, atG 2014 (by decide +kernel) rfl, atG 107 (by decide +kernel) rfl⟩
theorem lk_Mo_519 : Cond.methodLink "ShadeTownModel" 519 ⟨"ShadeTownModel", "dayPays", "()I"⟩ ∈ tblG := atG 2012 (by decide +kernel) rfl
theorem d_Mo_days_30 : decode prog_13_method_116_code 30 = .ok (.iadd, 1) := by decide +kernel
theorem d_Mo_days_31 : decode prog_13_method_116_code 31 = .ok (.istore_n 2, 1) := by decide +kernel
theorem d_Mo_days_32 : decode prog_13_method_116_code 32 = .ok (.iinc 3 1, 3) := by decide +kernel
theorem d_Mo_days_35 : decode prog_13_method_116_code 35 = .ok (.goto (-15), 3) := by decide +kernel
theorem d_Mo_days_22 : decode prog_13_method_116_code 22 = .ok (.if_icmp .ge 16, 3) := by decide +kernel
theorem d_Mo_days_10 : decode prog_13_method_116_code 10 = .ok (.iconst (-1), 1) := by decide +kernel
theorem d_Mo_days_11 : decode prog_13_method_116_code 11 = .ok (.ireturn, 1) := by decide +kernel
theorem d_Mo_days_7 : decode prog_13_method_116_code 7 = .ok (.ifCond .ne 5, 3) := by decide +kernel
def B_Mo_days_l20 (N : Nat) (a1 : Int32) (rec : Int32 → Int32 → Mem → Option (Int32 × Mem)) (x2 : Int32) (x3 : Int32) (σ : Mem) : Option (Int32 × Mem) :=
  if a1 ≤ x3 then
    (some (x2, σ))
  else
    (bnd2 (f_Mo_dayPays N σ) fun r27 σ27 =>
    letv (x2 + r27) fun v31 =>
    letv (x3 + 1) fun v32 =>
    rec v31 v32 σ27)
def L_Mo_days_l20 (N : Nat) (a1 : Int32) : Nat → Int32 → Int32 → Mem → Option (Int32 × Mem)
  | 0, _, _, _ => none
  | k + 1, x2, x3, σ => B_Mo_days_l20 N a1 (L_Mo_days_l20 N a1 k) x2 x3 σ
set_option maxHeartbeats 4000000 in
set_option maxRecDepth 20000 in
theorem cL_Mo_days_l20 (Z : ZX) {Y : YX} {post : Option Value → Mem → Prop} {N : Nat} {a1 : Int32} {Good : Int32 × Mem → Prop} (hR : ∀ (v : Int32) (σr : Mem), Good (v, σr) → post (some (.int v)) σr) : ∀ (k : Nat) (x2 : Int32) (x3 : Int32) (σ : Mem) (res : Int32 × Mem), L_Mo_days_l20 N a1 k x2 x3 σ = some res → Good res → V (mkB Z) Y m_Mo_days 6 (QP (mkB Z) Y nC 0 0 post) 0 0 nC σ 20 [(0, rf Z 65), (1, .int a1), (2, .int x2), (3, .int x3)] [] := by
  intro k
  induction k with
  | zero => intro x2 x3 σ res h; cases h
  | succ k ih =>
    intro x2 x3 σ res h hg
    replace h : B_Mo_days_l20 N a1 (L_Mo_days_l20 N a1 k) x2 x3 σ = some res := h
    unfold B_Mo_days_l20 at h
    refine V.iload_n d_Mo_days_20 rfl 3 rfl ?_
    refine V.iload_n d_Mo_days_21 rfl 1 rfl ?_
    refine V.icmp_ge (tgt := 38) d_Mo_days_22 (by decide) (fun hc22 => ?_) (fun hc22 => ?_)
    · replace h := ite_t hc22 h
      refine V.iload_n d_Mo_days_38 rfl 2 rfl ?_
      cases h
      exact V.iret rfl d_Mo_days_39 (hR _ _ hg)
    · replace h := ite_f hc22 h
      refine V.iload_n d_Mo_days_25 rfl 2 rfl ?_
      refine V.aload_n d_Mo_days_26 rfl 0 rfl ?_
      obtain ⟨r27, σ27, h1, h⟩ := bnd2_e h
      refine V.vI (as := []) (st := [.int x2]) (c_Mo_dayPays Z h1) k_Mo_dayPays lk_Mo_519 (by decide) rfl (by decide) ly_65 ok_Mo.1 rfl (Nat.le_of_ble_eq_true rfl) d_Mo_days_27 ?_
      refine V.iadd d_Mo_days_30 ?_
      obtain ⟨v31, e_v31, h⟩ := letv_e h
      refine V.topI e_v31 ?_
      refine V.istore_n (lv' := [(2, .int v31), (0, rf Z 65), (1, .int a1), (3, .int x3)]) d_Mo_days_31 rfl (by decide) rfl ?_
      obtain ⟨v32, e_v32, h⟩ := letv_e h
      refine V.iinc (v := v32) (lv' := [(3, .int v32), (2, .int v31), (0, rf Z 65), (1, .int a1)]) d_Mo_days_32 3 rfl (by rw [e_v32]; rfl) (by decide) rfl ?_
      refine V.goto (tgt := 20) d_Mo_days_35 (by decide) ?_
      exact V.pick [2, 3, 1, 0] rfl (ih _ _ _ _ h hg)
def f_Mo_days (N : Nat) (σ : Mem) (a1 : Int32) : Option (Int32 × Mem) :=
  bnd1 (f_Mo_in a1 1 30) fun r4 =>
  if r4 = 0 then
    (some ((-1), σ))
  else
    (bnd1 (f_Mo_laysDay N σ) fun σ13 =>
    L_Mo_days_l20 N a1 N 0 0 σ13)
set_option maxHeartbeats 4000000 in
set_option maxRecDepth 20000 in
theorem c_Mo_days (Z : ZX) {N : Nat} {σ : Mem} {a1 : Int32} {r : Int32} {σ' : Mem} (h : f_Mo_days N σ a1 = some (r, σ')) : CI Z 6 m_Mo_days [rf Z 65, .int a1] σ r σ' := by
  refine Ct.of (by decide +kernel) (Nat.le_of_ble_eq_true rfl) (fun Y => ?_)
  show V (mkB Z) Y m_Mo_days 6 (QP (mkB Z) Y nC 0 0 (fun v t => v = some (.int r) ∧ t = σ')) 0 0 nC σ 0 [(0, rf Z 65), (1, .int a1)] []
  unfold f_Mo_days at h
  refine V.iload_n d_Mo_days_0 rfl 1 rfl ?_
  refine V.iconst (v := 1) d_Mo_days_1 (by decide) ?_
  refine V.bipush (v := 30) d_Mo_days_2 (by decide) ?_
  obtain ⟨r4, h1, h⟩ := bnd1_e h
  refine V.sI (as := [.int a1, .int 1, .int 30]) (st := []) (c_Mo_in Z h1) k_Mo_in lk_Mo_188 (by decide) rfl rfl (Nat.le_of_ble_eq_true rfl) d_Mo_days_4 ?_
  refine V.if_ne (tgt := 12) d_Mo_days_7 (by decide) (fun hc7 => ?_) (fun hc7 => ?_)
  · replace h := ite_f hc7 h
    refine V.aload_n d_Mo_days_12 rfl 0 rfl ?_
    obtain ⟨σ13, h1, h⟩ := bnd1_e h
    refine V.vN (as := []) (st := []) (c_Mo_laysDay Z h1) k_Mo_laysDay lk_Mo_370 (by decide) rfl (by decide) ly_65 ok_Mo.1 rfl (Nat.le_of_ble_eq_true rfl) d_Mo_days_13 ?_
    refine V.iconst (v := 0) d_Mo_days_16 (by decide) ?_
    refine V.istore_n (lv' := [(2, .int 0), (0, rf Z 65), (1, .int a1)]) d_Mo_days_17 rfl (by decide) rfl ?_
    refine V.iconst (v := 0) d_Mo_days_18 (by decide) ?_
    refine V.istore_n (lv' := [(3, .int 0), (2, .int 0), (0, rf Z 65), (1, .int a1)]) d_Mo_days_19 rfl (by decide) rfl ?_
    refine V.pick [2, 3, 1, 0] rfl (cL_Mo_days_l20 Z (Good := fun z => z = _) (fun r20v r20m he => ?_) N _ _ _ _ h rfl)
    · cases he
      exact ⟨rfl, rfl⟩
  · replace h := ite_t hc7 h
    refine V.iconst (v := (-1)) d_Mo_days_10 (by decide) ?_
    cases h
    exact V.iret rfl d_Mo_days_11 ⟨rfl, rfl⟩
abbrev m_Mo_purse : MI := (⟨"ShadeTownModel", "purse", "(I)I"⟩, prog_13_method_117_code, 2, (Option.some Jvm.ClassFile.FieldType.int))
theorem d_Mo_purse_0 : decode prog_13_method_117_code 0 = .ok (.iload_n 1, 1) := by decide +kernel
theorem d_Mo_purse_1 : decode prog_13_method_117_code 1 = .ok (.iconst 0, 1) := by decide +kernel
theorem d_Mo_purse_2 : decode prog_13_method_117_code 2 = .ok (.iconst 5, 1) := by decide +kernel
theorem d_Mo_purse_3 : decode prog_13_method_117_code 3 = .ok (.invokestatic 188, 3) := by decide +kernel
theorem d_Mo_purse_18 : decode prog_13_method_117_code 18 = .ok (.iconst (-1), 1) := by decide +kernel
theorem d_Mo_purse_19 : decode prog_13_method_117_code 19 = .ok (.ireturn, 1) := by decide +kernel
theorem d_Mo_purse_9 : decode prog_13_method_117_code 9 = .ok (.aload_n 0, 1) := by decide +kernel
theorem d_Mo_purse_10 : decode prog_13_method_117_code 10 = .ok (.getfield 25, 3) := by decide +kernel
theorem d_Mo_purse_13 : decode prog_13_method_117_code 13 = .ok (.iload_n 1, 1) := by decide +kernel
theorem d_Mo_purse_14 : decode prog_13_method_117_code 14 = .ok (.iaload, 1) := by decide +kernel
theorem d_Mo_purse_15 : decode prog_13_method_117_code 15 = .ok (.goto 4, 3) := by decide +kernel
theorem d_Mo_purse_6 : decode prog_13_method_117_code 6 = .ok (.ifCond .eq 12, 3) := by decide +kernel
def f_Mo_purse (σ : Mem) (a1 : Int32) : Option (Int32) :=
  bnd1 (f_Mo_in a1 0 5) fun r3 =>
  if r3 = 0 then
    (some (-1))
  else
    (grd (inb a1 6) <|
    some (mI σ 71 (a1.toNatClampNeg)))
set_option maxHeartbeats 4000000 in
set_option maxRecDepth 20000 in
theorem c_Mo_purse (Z : ZX) {σ : Mem} {a1 : Int32} {r : Int32} (h : f_Mo_purse σ a1 = some r) : CI Z 1 m_Mo_purse [rf Z 65, .int a1] σ r σ := by
  refine Ct.of (by decide +kernel) (Nat.le_of_ble_eq_true rfl) (fun Y => ?_)
  show V (mkB Z) Y m_Mo_purse 1 (QP (mkB Z) Y nC 0 0 (fun v t => v = some (.int r) ∧ t = σ)) 0 0 nC σ 0 [(0, rf Z 65), (1, .int a1)] []
  unfold f_Mo_purse at h
  refine V.iload_n d_Mo_purse_0 rfl 1 rfl ?_
  refine V.iconst (v := 0) d_Mo_purse_1 (by decide) ?_
  refine V.iconst (v := 5) d_Mo_purse_2 (by decide) ?_
  obtain ⟨r3, h1, h⟩ := bnd1_e h
  refine V.sI (as := [.int a1, .int 0, .int 5]) (st := []) (c_Mo_in Z h1) k_Mo_in lk_Mo_188 (by decide) rfl rfl (Nat.le_of_ble_eq_true rfl) d_Mo_purse_3 ?_
  refine V.if_eq (tgt := 18) d_Mo_purse_6 (by decide) (fun hc6 => ?_) (fun hc6 => ?_)
  · replace h := ite_t hc6 h
    refine V.iconst (v := (-1)) d_Mo_purse_18 (by decide) ?_
    cases h
    exact V.iret rfl d_Mo_purse_19 ⟨rfl, rfl⟩
  · replace h := ite_f hc6 h
    refine V.aload_n d_Mo_purse_9 rfl 0 rfl ?_
    refine V.getR (r := 71) ok_Mo fl_Mo_25 (by decide) (by decide) ly_65 rfl d_Mo_purse_10 ?_
    refine V.iload_n d_Mo_purse_13 rfl 1 rfl ?_
    obtain ⟨gq, h⟩ := grd_e h
    refine V.ra (by decide) ly_71 (inb_e gq) rfl d_Mo_purse_14 ?_
    refine V.goto (tgt := 19) d_Mo_purse_15 (by decide) ?_
    cases h
    exact V.iret rfl d_Mo_purse_19 ⟨rfl, rfl⟩
abbrev m_Mo_odds : MI := (⟨"ShadeTownModel", "odds", "(III)J"⟩, prog_13_method_118_code, 10, (Option.some Jvm.ClassFile.FieldType.long))
theorem d_Mo_odds_0 : decode prog_13_method_118_code 0 = .ok (.iload_n 1, 1) := by decide +kernel
theorem d_Mo_odds_1 : decode prog_13_method_118_code 1 = .ok (.invokestatic 321, 3) := by decide +kernel
theorem d_Mo_odds_36 : decode prog_13_method_118_code 36 = .ok (.ldc2_w 382, 3) := by decide +kernel
theorem d_Mo_odds_39 : decode prog_13_method_118_code 39 = .ok (.lreturn, 1) := by decide +kernel
theorem d_Mo_odds_7 : decode prog_13_method_118_code 7 = .ok (.iload_n 2, 1) := by decide +kernel
theorem d_Mo_odds_8 : decode prog_13_method_118_code 8 = .ok (.iload_n 1, 1) := by decide +kernel
theorem d_Mo_odds_9 : decode prog_13_method_118_code 9 = .ok (.iconst 1, 1) := by decide +kernel
theorem d_Mo_odds_10 : decode prog_13_method_118_code 10 = .ok (.iadd, 1) := by decide +kernel
theorem d_Mo_odds_11 : decode prog_13_method_118_code 11 = .ok (.bipush 24, 2) := by decide +kernel
theorem d_Mo_odds_13 : decode prog_13_method_118_code 13 = .ok (.invokestatic 188, 3) := by decide +kernel
theorem d_Mo_odds_19 : decode prog_13_method_118_code 19 = .ok (.iload_n 2, 1) := by decide +kernel
theorem d_Mo_odds_20 : decode prog_13_method_118_code 20 = .ok (.iload_n 1, 1) := by decide +kernel
theorem d_Mo_odds_21 : decode prog_13_method_118_code 21 = .ok (.isub, 1) := by decide +kernel
theorem d_Mo_odds_22 : decode prog_13_method_118_code 22 = .ok (.bipush 18, 2) := by decide +kernel
theorem d_Mo_odds_27 : decode prog_13_method_118_code 27 = .ok (.iload_n 3, 1) := by decide +kernel
theorem d_Mo_odds_28 : decode prog_13_method_118_code 28 = .ok (.iconst 0, 1) := by decide +kernel
theorem d_Mo_odds_29 : decode prog_13_method_118_code 29 = .ok (.iconst 1, 1) := by decide +kernel
theorem d_Mo_odds_30 : decode prog_13_method_118_code 30 = .ok (.invokestatic 188, 3) := by decide +kernel
theorem d_Mo_odds_40 : decode prog_13_method_118_code 40 = .ok (.lconst 1, 1) := by decide +kernel
theorem d_Mo_odds_41 : decode prog_13_method_118_code 41 = .ok (.lstore 4, 2) := by decide +kernel
theorem d_Mo_odds_43 : decode prog_13_method_118_code 43 = .ok (.lconst 1, 1) := by decide +kernel
theorem d_Mo_odds_44 : decode prog_13_method_118_code 44 = .ok (.lstore 6, 2) := by decide +kernel
theorem d_Mo_odds_46 : decode prog_13_method_118_code 46 = .ok (.iload_n 1, 1) := by decide +kernel
theorem d_Mo_odds_47 : decode prog_13_method_118_code 47 = .ok (.istore 8, 2) := by decide +kernel
theorem d_Mo_odds_49 : decode prog_13_method_118_code 49 = .ok (.iload 8, 2) := by decide +kernel
theorem d_Mo_odds_51 : decode prog_13_method_118_code 51 = .ok (.iload_n 2, 1) := by decide +kernel
theorem d_Mo_odds_55 : decode prog_13_method_118_code 55 = .ok (.aload_n 0, 1) := by decide +kernel
theorem d_Mo_odds_56 : decode prog_13_method_118_code 56 = .ok (.iload 8, 2) := by decide +kernel
theorem d_Mo_odds_58 : decode prog_13_method_118_code 58 = .ok (.invokevirtual 324, 3) := by decide +kernel
theorem d_Mo_odds_67 : decode prog_13_method_118_code 67 = .ok (.lload 4, 2) := by decide +kernel
theorem d_Mo_odds_69 : decode prog_13_method_118_code 69 = .ok (.bipush 10, 2) := by decide +kernel
theorem d_Mo_odds_71 : decode prog_13_method_118_code 71 = .ok (.aload_n 0, 1) := by decide +kernel
theorem d_Mo_odds_72 : decode prog_13_method_118_code 72 = .ok (.iload 8, 2) := by decide +kernel
theorem d_Mo_odds_74 : decode prog_13_method_118_code 74 = .ok (.invokevirtual 333, 3) := by decide +kernel
theorem d_Mo_odds_77 : decode prog_13_method_118_code 77 = .ok (.isub, 1) := by decide +kernel
theorem d_Mo_odds_78 : decode prog_13_method_118_code 78 = .ok (.i2l, 1) := by decide +kernel
theorem d_Mo_odds_79 : decode prog_13_method_118_code 79 = .ok (.lmul, 1) := by decide +kernel
theorem d_Mo_odds_80 : decode prog_13_method_118_code 80 = .ok (.lstore 4, 2) := by decide +kernel
theorem d_Mo_odds_82 : decode prog_13_method_118_code 82 = .ok (.lload 6, 2) := by decide +kernel
theorem kl_Mo_522 : Cond.constantLong "ShadeTownModel" 522 (10) ∈ tblG := atG 2029 (by decide +kernel) rfl
theorem d_Mo_odds_84 : decode prog_13_method_118_code 84 = .ok (.ldc2_w 522, 3) := by decide +kernel
theorem d_Mo_odds_87 : decode prog_13_method_118_code 87 = .ok (.lmul, 1) := by decide +kernel
theorem d_Mo_odds_88 : decode prog_13_method_118_code 88 = .ok (.lstore 6, 2) := by decide +kernel
theorem d_Mo_odds_64 : decode prog_13_method_118_code 64 = .ok (.goto 26, 3) := by decide +kernel
theorem d_Mo_odds_61 : decode prog_13_method_118_code 61 = .ok (.ifCond .ne 6, 3) := by decide +kernel
theorem d_Mo_odds_90 : decode prog_13_method_118_code 90 = .ok (.iinc 8 1, 3) := by decide +kernel
theorem d_Mo_odds_93 : decode prog_13_method_118_code 93 = .ok (.goto (-44), 3) := by decide +kernel
theorem d_Mo_odds_52 : decode prog_13_method_118_code 52 = .ok (.if_icmp .ge 44, 3) := by decide +kernel
theorem d_Mo_odds_96 : decode prog_13_method_118_code 96 = .ok (.lload 4, 2) := by decide +kernel
theorem d_Mo_odds_98 : decode prog_13_method_118_code 98 = .ok (.lload 6, 2) := by decide +kernel
theorem d_Mo_odds_100 : decode prog_13_method_118_code 100 = .ok (.invokestatic 390, 3) := by decide +kernel
theorem d_Mo_odds_103 : decode prog_13_method_118_code 103 = .ok (.lstore 8, 2) := by decide +kernel
theorem d_Mo_odds_105 : decode prog_13_method_118_code 105 = .ok (.iload_n 3, 1) := by decide +kernel
theorem d_Mo_odds_117 : decode prog_13_method_118_code 117 = .ok (.lload 6, 2) := by decide +kernel
theorem d_Mo_odds_119 : decode prog_13_method_118_code 119 = .ok (.lload 8, 2) := by decide +kernel
theorem d_Mo_odds_121 : decode prog_13_method_118_code 121 = .ok (.ldiv, 1) := by decide +kernel
theorem d_Mo_odds_122 : decode prog_13_method_118_code 122 = .ok (.lreturn, 1) := by decide +kernel
theorem d_Mo_odds_109 : decode prog_13_method_118_code 109 = .ok (.lload 4, 2) := by decide +kernel
theorem d_Mo_odds_111 : decode prog_13_method_118_code 111 = .ok (.lload 8, 2) := by decide +kernel
theorem d_Mo_odds_113 : decode prog_13_method_118_code 113 = .ok (.ldiv, 1) := by decide +kernel
theorem d_Mo_odds_114 : decode prog_13_method_118_code 114 = .ok (.goto 8, 3) := by decide +kernel
theorem d_Mo_odds_106 : decode prog_13_method_118_code 106 = .ok (.ifCond .ne 11, 3) := by decide +kernel
theorem d_Mo_odds_33 : decode prog_13_method_118_code 33 = .ok (.ifCond .ne 7, 3) := by decide +kernel
theorem d_Mo_odds_24 : decode prog_13_method_118_code 24 = .ok (.if_icmp .gt 12, 3) := by decide +kernel
theorem d_Mo_odds_16 : decode prog_13_method_118_code 16 = .ok (.ifCond .eq 20, 3) := by decide +kernel
theorem d_Mo_odds_4 : decode prog_13_method_118_code 4 = .ok (.ifCond .eq 32, 3) := by decide +kernel
def B_Mo_odds_l49 (N : Nat) (a2 : Int32) (a3 : Int32) (rec : Int64 → Int64 → Int32 → Mem → Option (Int64 × Int64 × Mem)) (x4 : Int64) (x6 : Int64) (x8 : Int32) (σ : Mem) : Option (Int64 × Int64 × Mem) :=
  if a2 ≤ x8 then
    (some (x4, x6, σ))
  else
    (bnd2 (f_Mo_isUp N σ x8) fun r58 σ58 =>
    bnd1 ((
      if r58 = 0 then
        (some (x4, x6, σ58))
      else
        (bnd2 (f_Mo_cloudsIn N σ58 x8) fun r74 σ74 =>
        letv (x4 * ((10 - r74).toInt64)) fun v80 =>
        letv (x6 * 10) fun v88 =>
        some (v80, v88, σ74))) : Option (Int64 × Int64 × Mem)) fun s61 =>
    q3 s61 fun y61_4 y61_6 σ61_ =>
    letv (x8 + 1) fun v90 =>
    rec y61_4 y61_6 v90 σ61_)
def L_Mo_odds_l49 (N : Nat) (a2 : Int32) (a3 : Int32) : Nat → Int64 → Int64 → Int32 → Mem → Option (Int64 × Int64 × Mem)
  | 0, _, _, _, _ => none
  | k + 1, x4, x6, x8, σ => B_Mo_odds_l49 N a2 a3 (L_Mo_odds_l49 N a2 a3 k) x4 x6 x8 σ
set_option maxHeartbeats 4000000 in
set_option maxRecDepth 20000 in
theorem cL_Mo_odds_l49 (Z : ZX) {Y : YX} {Q : State → Prop} {N : Nat} {a2 : Int32} {a3 : Int32} {Good : Int64 × Int64 × Mem → Prop} (hE : ∀ (o4 : Int64) (o6 : Int64) (σe : Mem), Good (o4, o6, σe) → V (mkB Z) Y m_Mo_odds 4 Q 0 0 nC σe 96 [(3, .int a3), (4, .long o4), (6, .long o6)] []) : ∀ (k : Nat) (x4 : Int64) (x6 : Int64) (x8 : Int32) (σ : Mem) (res : Int64 × Int64 × Mem), L_Mo_odds_l49 N a2 a3 k x4 x6 x8 σ = some res → Good res → V (mkB Z) Y m_Mo_odds 4 Q 0 0 nC σ 49 [(0, rf Z 65), (2, .int a2), (3, .int a3), (4, .long x4), (6, .long x6), (8, .int x8)] [] := by
  intro k
  induction k with
  | zero => intro x4 x6 x8 σ res h; cases h
  | succ k ih =>
    intro x4 x6 x8 σ res h hg
    replace h : B_Mo_odds_l49 N a2 a3 (L_Mo_odds_l49 N a2 a3 k) x4 x6 x8 σ = some res := h
    unfold B_Mo_odds_l49 at h
    refine V.iload d_Mo_odds_49 5 rfl ?_
    refine V.iload_n d_Mo_odds_51 rfl 1 rfl ?_
    refine V.icmp_ge (tgt := 96) d_Mo_odds_52 (by decide) (fun hc52 => ?_) (fun hc52 => ?_)
    · replace h := ite_t hc52 h
      cases h
      exact V.pick [2, 3, 4] rfl (hE _ _ _ hg)
    · replace h := ite_f hc52 h
      refine V.aload_n d_Mo_odds_55 rfl 0 rfl ?_
      refine V.iload d_Mo_odds_56 5 rfl ?_
      obtain ⟨r58, σ58, h1, h⟩ := bnd2_e h
      refine V.vI (as := [.int x8]) (st := []) (c_Mo_isUp Z h1) k_Mo_isUp lk_Mo_324 (by decide) rfl (by decide) ly_65 ok_Mo.1 rfl (Nat.le_of_ble_eq_true rfl) d_Mo_odds_58 ?_
      obtain ⟨s61, h1, h⟩ := bnd1_e h
      have J61_90 : ∀ (y61_4 : Int64) (y61_6 : Int64) (σ61_ : Mem), s61 = (y61_4, y61_6, σ61_) → V (mkB Z) Y m_Mo_odds 4 Q 0 0 nC σ61_ 90 [(0, rf Z 65), (2, .int a2), (3, .int a3), (4, .long y61_4), (6, .long y61_6), (8, .int x8)] [] := by
        intro y61_4 y61_6 σ61_ he
        rw [he] at h
        replace h := q3_e h
        obtain ⟨v90, e_v90, h⟩ := letv_e h
        refine V.iinc (v := v90) (lv' := [(8, .int v90), (0, rf Z 65), (2, .int a2), (3, .int a3), (4, .long y61_4), (6, .long y61_6)]) d_Mo_odds_90 5 rfl (by rw [e_v90]; rfl) (by decide) rfl ?_
        refine V.goto (tgt := 49) d_Mo_odds_93 (by decide) ?_
        exact V.pick [1, 2, 3, 4, 5, 0] rfl (ih _ _ _ _ _ h hg)
      replace h := h1
      refine V.if_ne (tgt := 67) d_Mo_odds_61 (by decide) (fun hc61 => ?_) (fun hc61 => ?_)
      · replace h := ite_f hc61 h
        refine V.lload d_Mo_odds_67 3 rfl ?_
        refine V.bipush (v := 10) d_Mo_odds_69 (by decide) ?_
        refine V.aload_n d_Mo_odds_71 rfl 0 rfl ?_
        refine V.iload d_Mo_odds_72 5 rfl ?_
        obtain ⟨r74, σ74, h1, h⟩ := bnd2_e h
        refine V.vI (as := [.int x8]) (st := [.int 10, .long x4]) (c_Mo_cloudsIn Z h1) k_Mo_cloudsIn lk_Mo_333 (by decide) rfl (by decide) ly_65 ok_Mo.1 rfl (Nat.le_of_ble_eq_true rfl) d_Mo_odds_74 ?_
        refine V.isub d_Mo_odds_77 ?_
        refine V.i2l d_Mo_odds_78 ?_
        refine V.lmul d_Mo_odds_79 ?_
        obtain ⟨v80, e_v80, h⟩ := letv_e h
        refine V.topL e_v80 ?_
        refine V.lstore (lv' := [(4, .long v80), (0, rf Z 65), (2, .int a2), (3, .int a3), (6, .long x6), (8, .int x8)]) d_Mo_odds_80 (by decide) rfl ?_
        refine V.lload d_Mo_odds_82 4 rfl ?_
        refine V.ldc2 (v := 10) kl_Mo_522 d_Mo_odds_84 ?_
        refine V.lmul d_Mo_odds_87 ?_
        obtain ⟨v88, e_v88, h⟩ := letv_e h
        refine V.topL e_v88 ?_
        refine V.lstore (lv' := [(6, .long v88), (4, .long v80), (0, rf Z 65), (2, .int a2), (3, .int a3), (8, .int x8)]) d_Mo_odds_88 (by decide) rfl ?_
        exact V.pick [2, 3, 4, 1, 0, 5] rfl (J61_90 _ _ _ (Option.some.inj h).symm)
      · replace h := ite_t hc61 h
        refine V.goto (tgt := 90) d_Mo_odds_64 (by decide) ?_
        exact V.pick [0, 1, 2, 3, 4, 5] rfl (J61_90 _ _ _ (Option.some.inj h).symm)
def f_Mo_odds (N : Nat) (σ : Mem) (a1 : Int32) (a2 : Int32) (a3 : Int32) : Option (Int64 × Mem) :=
  bnd1 (f_Mo_isHour a1) fun r1 =>
  if r1 = 0 then
    (some ((-1), σ))
  else
    (bnd1 (f_Mo_in a2 (a1 + 1) 24) fun r13 =>
    if r13 = 0 then
      (some ((-1), σ))
    else
      (if 18 < (a2 - a1) then
        (some ((-1), σ))
      else
        (bnd1 (f_Mo_in a3 0 1) fun r30 =>
        if r30 = 0 then
          (some ((-1), σ))
        else
          (bnd1 (L_Mo_odds_l49 N a2 a3 N 1 1 a1 σ) fun x49_ =>
          q3 x49_ fun z49_4 z49_6 σ49_ =>
          bnd1 (f_Mo_gcd N z49_4 z49_6) fun r100 =>
          if a3 = 0 then
            (grd (decide (¬ r100 = 0)) <|
            some (z49_4 / r100, σ49_))
          else
            (grd (decide (¬ r100 = 0)) <|
            some (z49_6 / r100, σ49_))))))
set_option maxHeartbeats 4000000 in
set_option maxRecDepth 20000 in
theorem c_Mo_odds (Z : ZX) {N : Nat} {σ : Mem} {a1 : Int32} {a2 : Int32} {a3 : Int32} {r : Int64} {σ' : Mem} (h : f_Mo_odds N σ a1 a2 a3 = some (r, σ')) : CJ Z 4 m_Mo_odds [rf Z 65, .int a1, .int a2, .int a3] σ r σ' := by
  refine Ct.of (by decide +kernel) (Nat.le_of_ble_eq_true rfl) (fun Y => ?_)
  show V (mkB Z) Y m_Mo_odds 4 (QP (mkB Z) Y nC 0 0 (fun v t => v = some (.long r) ∧ t = σ')) 0 0 nC σ 0 [(0, rf Z 65), (1, .int a1), (2, .int a2), (3, .int a3)] []
  unfold f_Mo_odds at h
  refine V.iload_n d_Mo_odds_0 rfl 1 rfl ?_
  obtain ⟨r1, h1, h⟩ := bnd1_e h
  refine V.sI (as := [.int a1]) (st := []) (c_Mo_isHour Z h1) k_Mo_isHour lk_Mo_321 (by decide) rfl rfl (Nat.le_of_ble_eq_true rfl) d_Mo_odds_1 ?_
  refine V.if_eq (tgt := 36) d_Mo_odds_4 (by decide) (fun hc4 => ?_) (fun hc4 => ?_)
  · replace h := ite_t hc4 h
    refine V.ldc2 (v := (-1)) kl_Mo_382 d_Mo_odds_36 ?_
    cases h
    exact V.lret rfl d_Mo_odds_39 ⟨rfl, rfl⟩
  · replace h := ite_f hc4 h
    refine V.iload_n d_Mo_odds_7 rfl 2 rfl ?_
    refine V.iload_n d_Mo_odds_8 rfl 1 rfl ?_
    refine V.iconst (v := 1) d_Mo_odds_9 (by decide) ?_
    refine V.iadd d_Mo_odds_10 ?_
    refine V.bipush (v := 24) d_Mo_odds_11 (by decide) ?_
    obtain ⟨r13, h1, h⟩ := bnd1_e h
    refine V.sI (as := [.int a2, .int (a1 + 1), .int 24]) (st := []) (c_Mo_in Z h1) k_Mo_in lk_Mo_188 (by decide) rfl rfl (Nat.le_of_ble_eq_true rfl) d_Mo_odds_13 ?_
    refine V.if_eq (tgt := 36) d_Mo_odds_16 (by decide) (fun hc16 => ?_) (fun hc16 => ?_)
    · replace h := ite_t hc16 h
      refine V.ldc2 (v := (-1)) kl_Mo_382 d_Mo_odds_36 ?_
      cases h
      exact V.lret rfl d_Mo_odds_39 ⟨rfl, rfl⟩
    · replace h := ite_f hc16 h
      refine V.iload_n d_Mo_odds_19 rfl 2 rfl ?_
      refine V.iload_n d_Mo_odds_20 rfl 1 rfl ?_
      refine V.isub d_Mo_odds_21 ?_
      refine V.bipush (v := 18) d_Mo_odds_22 (by decide) ?_
      refine V.icmp_gt (tgt := 36) d_Mo_odds_24 (by decide) (fun hc24 => ?_) (fun hc24 => ?_)
      · replace h := ite_t hc24 h
        refine V.ldc2 (v := (-1)) kl_Mo_382 d_Mo_odds_36 ?_
        cases h
        exact V.lret rfl d_Mo_odds_39 ⟨rfl, rfl⟩
      · replace h := ite_f hc24 h
        refine V.iload_n d_Mo_odds_27 rfl 3 rfl ?_
        refine V.iconst (v := 0) d_Mo_odds_28 (by decide) ?_
        refine V.iconst (v := 1) d_Mo_odds_29 (by decide) ?_
        obtain ⟨r30, h1, h⟩ := bnd1_e h
        refine V.sI (as := [.int a3, .int 0, .int 1]) (st := []) (c_Mo_in Z h1) k_Mo_in lk_Mo_188 (by decide) rfl rfl (Nat.le_of_ble_eq_true rfl) d_Mo_odds_30 ?_
        refine V.if_ne (tgt := 40) d_Mo_odds_33 (by decide) (fun hc33 => ?_) (fun hc33 => ?_)
        · replace h := ite_f hc33 h
          refine V.lconst (v := 1) d_Mo_odds_40 (by decide) ?_
          refine V.lstore (lv' := [(4, .long 1), (0, rf Z 65), (1, .int a1), (2, .int a2), (3, .int a3)]) d_Mo_odds_41 (by decide) rfl ?_
          refine V.lconst (v := 1) d_Mo_odds_43 (by decide) ?_
          refine V.lstore (lv' := [(6, .long 1), (4, .long 1), (0, rf Z 65), (1, .int a1), (2, .int a2), (3, .int a3)]) d_Mo_odds_44 (by decide) rfl ?_
          refine V.iload_n d_Mo_odds_46 rfl 3 rfl ?_
          refine V.istore (lv' := [(8, .int a1), (6, .long 1), (4, .long 1), (0, rf Z 65), (1, .int a1), (2, .int a2), (3, .int a3)]) d_Mo_odds_47 (by decide) rfl ?_
          obtain ⟨x49_, h1, h⟩ := bnd1_e h
          refine V.pick [3, 5, 6, 2, 1, 0] rfl (cL_Mo_odds_l49 Z (Good := fun z => x49_ = z) (fun z49_4 z49_6 σ49_ he => ?_) N _ _ _ _ _ h1 rfl)
          · rw [he] at h
            replace h := q3_e h
            refine V.lload d_Mo_odds_96 1 rfl ?_
            refine V.lload d_Mo_odds_98 2 rfl ?_
            obtain ⟨r100, h1, h⟩ := bnd1_e h
            refine V.sJ (as := [.long z49_4, .long z49_6]) (st := []) (c_Mo_gcd Z h1) k_Mo_gcd lk_Mo_390 (by decide) rfl rfl (Nat.le_of_ble_eq_true rfl) d_Mo_odds_100 ?_
            refine V.lstore (lv' := [(8, .long r100), (3, .int a3), (4, .long z49_4), (6, .long z49_6)]) d_Mo_odds_103 (by decide) rfl ?_
            refine V.iload_n d_Mo_odds_105 rfl 1 rfl ?_
            refine V.if_ne (tgt := 117) d_Mo_odds_106 (by decide) (fun hc106 => ?_) (fun hc106 => ?_)
            · replace h := ite_f hc106 h
              refine V.lload d_Mo_odds_117 3 rfl ?_
              refine V.lload d_Mo_odds_119 0 rfl ?_
              obtain ⟨gq, h⟩ := grd_e h
              refine V.ldiv d_Mo_odds_121 (of_decide_eq_true gq) ?_
              cases h
              exact V.lret rfl d_Mo_odds_122 ⟨rfl, rfl⟩
            · replace h := ite_t hc106 h
              refine V.lload d_Mo_odds_109 2 rfl ?_
              refine V.lload d_Mo_odds_111 0 rfl ?_
              obtain ⟨gq, h⟩ := grd_e h
              refine V.ldiv d_Mo_odds_113 (of_decide_eq_true gq) ?_
              refine V.goto (tgt := 122) d_Mo_odds_114 (by decide) ?_
              cases h
              exact V.lret rfl d_Mo_odds_122 ⟨rfl, rfl⟩
        · replace h := ite_t hc33 h
          refine V.ldc2 (v := (-1)) kl_Mo_382 d_Mo_odds_36 ?_
          cases h
          exact V.lret rfl d_Mo_odds_39 ⟨rfl, rfl⟩
abbrev m_Mo_seed : MI := (⟨"ShadeTownModel", "seed", "(I)Z"⟩, prog_13_method_119_code, 2, (Option.some Jvm.ClassFile.FieldType.boolean))
theorem d_Mo_seed_0 : decode prog_13_method_119_code 0 = .ok (.iload_n 1, 1) := by decide +kernel
theorem d_Mo_seed_1 : decode prog_13_method_119_code 1 = .ok (.iconst 0, 1) := by decide +kernel
theorem kc_Mo_524 : Cond.constant "ShadeTownModel" 524 (65535) ∈ tblG := atG 2034 (by decide +kernel) rfl
theorem d_Mo_seed_2 : decode prog_13_method_119_code 2 = .ok (.ldc_w 524, 3) := by decide +kernel
theorem d_Mo_seed_5 : decode prog_13_method_119_code 5 = .ok (.invokestatic 188, 3) := by decide +kernel
theorem d_Mo_seed_13 : decode prog_13_method_119_code 13 = .ok (.aload_n 0, 1) := by decide +kernel
theorem d_Mo_seed_14 : decode prog_13_method_119_code 14 = .ok (.iload_n 1, 1) := by decide +kernel
theorem d_Mo_seed_15 : decode prog_13_method_119_code 15 = .ok (.putfield 163, 3) := by decide +kernel
theorem d_Mo_seed_18 : decode prog_13_method_119_code 18 = .ok (.iconst 1, 1) := by decide +kernel
theorem d_Mo_seed_19 : decode prog_13_method_119_code 19 = .ok (.ireturn, 1) := by decide +kernel
theorem d_Mo_seed_11 : decode prog_13_method_119_code 11 = .ok (.iconst 0, 1) := by decide +kernel
theorem d_Mo_seed_12 : decode prog_13_method_119_code 12 = .ok (.ireturn, 1) := by decide +kernel
theorem d_Mo_seed_8 : decode prog_13_method_119_code 8 = .ok (.ifCond .ne 5, 3) := by decide +kernel
def f_Mo_seed (σ : Mem) (a1 : Int32) : Option (Int32 × Mem) :=
  bnd1 (f_Mo_in a1 0 65535) fun r5 =>
  if r5 = 0 then
    (some (0, σ))
  else
    (letv (sI σ 65 3 a1) fun σ15 =>
    some (1, σ15))
set_option maxHeartbeats 4000000 in
set_option maxRecDepth 20000 in
theorem c_Mo_seed (Z : ZX) {σ : Mem} {a1 : Int32} {r : Int32} {σ' : Mem} (h : f_Mo_seed σ a1 = some (r, σ')) : CI Z 1 m_Mo_seed [rf Z 65, .int a1] σ r σ' := by
  refine Ct.of (by decide +kernel) (Nat.le_of_ble_eq_true rfl) (fun Y => ?_)
  show V (mkB Z) Y m_Mo_seed 1 (QP (mkB Z) Y nC 0 0 (fun v t => v = some (.int r) ∧ t = σ')) 0 0 nC σ 0 [(0, rf Z 65), (1, .int a1)] []
  unfold f_Mo_seed at h
  refine V.iload_n d_Mo_seed_0 rfl 1 rfl ?_
  refine V.iconst (v := 0) d_Mo_seed_1 (by decide) ?_
  refine V.ldcw (v := 65535) kc_Mo_524 d_Mo_seed_2 ?_
  obtain ⟨r5, h1, h⟩ := bnd1_e h
  refine V.sI (as := [.int a1, .int 0, .int 65535]) (st := []) (c_Mo_in Z h1) k_Mo_in lk_Mo_188 (by decide) rfl rfl (Nat.le_of_ble_eq_true rfl) d_Mo_seed_5 ?_
  refine V.if_ne (tgt := 13) d_Mo_seed_8 (by decide) (fun hc8 => ?_) (fun hc8 => ?_)
  · replace h := ite_f hc8 h
    refine V.aload_n d_Mo_seed_13 rfl 0 rfl ?_
    refine V.iload_n d_Mo_seed_14 rfl 1 rfl ?_
    obtain ⟨σ15, e_σ15, h⟩ := letv_e h
    refine V.putI ok_Mo fl_Mo_163 (by decide) (by decide) ly_65 rfl rfl rfl rfl d_Mo_seed_15 (V.mem e_σ15 ?_)
    refine V.iconst (v := 1) d_Mo_seed_18 (by decide) ?_
    cases h
    exact V.zret rfl rfl d_Mo_seed_19 ⟨rfl, rfl⟩
  · replace h := ite_t hc8 h
    refine V.iconst (v := 0) d_Mo_seed_11 (by decide) ?_
    cases h
    exact V.zret rfl rfl d_Mo_seed_12 ⟨rfl, rfl⟩
abbrev m_Mo_copies : MI := (⟨"ShadeTownModel", "copies", "([I[II)V"⟩, prog_13_method_120_code, 4, (Option.none : Option Jvm.ClassFile.FieldType))
theorem d_Mo_copies_0 : decode prog_13_method_120_code 0 = .ok (.iconst 0, 1) := by decide +kernel
theorem d_Mo_copies_1 : decode prog_13_method_120_code 1 = .ok (.istore_n 3, 1) := by decide +kernel
theorem d_Mo_copies_2 : decode prog_13_method_120_code 2 = .ok (.iload_n 3, 1) := by decide +kernel
theorem d_Mo_copies_3 : decode prog_13_method_120_code 3 = .ok (.iload_n 2, 1) := by decide +kernel
theorem d_Mo_copies_19 : decode prog_13_method_120_code 19 = .ok (.return_, 1) := by decide +kernel
theorem d_Mo_copies_7 : decode prog_13_method_120_code 7 = .ok (.aload_n 1, 1) := by decide +kernel
theorem d_Mo_copies_8 : decode prog_13_method_120_code 8 = .ok (.iload_n 3, 1) := by decide +kernel
theorem d_Mo_copies_9 : decode prog_13_method_120_code 9 = .ok (.aload_n 0, 1) := by decide +kernel
theorem d_Mo_copies_10 : decode prog_13_method_120_code 10 = .ok (.iload_n 3, 1) := by decide +kernel
theorem d_Mo_copies_11 : decode prog_13_method_120_code 11 = .ok (.iaload, 1) := by decide +kernel
theorem d_Mo_copies_12 : decode prog_13_method_120_code 12 = .ok (.iastore, 1) := by decide +kernel
theorem d_Mo_copies_13 : decode prog_13_method_120_code 13 = .ok (.iinc 3 1, 3) := by decide +kernel
theorem d_Mo_copies_16 : decode prog_13_method_120_code 16 = .ok (.goto (-14), 3) := by decide +kernel
theorem d_Mo_copies_4 : decode prog_13_method_120_code 4 = .ok (.if_icmp .ge 15, 3) := by decide +kernel
def B_Mo_copies_l2 (N : Nat) (g0 n0 : Nat) (g1 n1 : Nat) (a2 : Int32) (rec : Int32 → Mem → Option (Mem)) (x3 : Int32) (σ : Mem) : Option (Mem) :=
  if a2 ≤ x3 then
    (some σ)
  else
    (grd (inb x3 n0) <|
    grd (inb x3 n1) <|
    letv (sI σ g1 (x3.toNatClampNeg) (mI σ g0 (x3.toNatClampNeg))) fun σ12 =>
    letv (x3 + 1) fun v13 =>
    rec v13 σ12)
def L_Mo_copies_l2 (N : Nat) (g0 n0 : Nat) (g1 n1 : Nat) (a2 : Int32) : Nat → Int32 → Mem → Option (Mem)
  | 0, _, _ => none
  | k + 1, x3, σ => B_Mo_copies_l2 N g0 n0 g1 n1 a2 (L_Mo_copies_l2 N g0 n0 g1 n1 a2 k) x3 σ
set_option maxHeartbeats 4000000 in
set_option maxRecDepth 20000 in
theorem cL_Mo_copies_l2 (Z : ZX) {Y : YX} {post : Option Value → Mem → Prop} {N : Nat} {g0 n0 : Nat} {g1 n1 : Nat} {a2 : Int32} (hk0 : g0 < nC) (hy0 : lay1 g0 = .inl (.int, n0)) (hk1 : g1 < nC) (hy1 : lay1 g1 = .inl (.int, n1)) {Good : Mem → Prop} (hR : ∀ (σr : Mem), Good σr → post none σr) : ∀ (k : Nat) (x3 : Int32) (σ : Mem) (res : Mem), L_Mo_copies_l2 N g0 n0 g1 n1 a2 k x3 σ = some res → Good res → V (mkB Z) Y m_Mo_copies 0 (QP (mkB Z) Y nC 0 0 post) 0 0 nC σ 2 [(0, rf Z g0), (1, rf Z g1), (2, .int a2), (3, .int x3)] [] := by
  intro k
  induction k with
  | zero => intro x3 σ res h; cases h
  | succ k ih =>
    intro x3 σ res h hg
    replace h : B_Mo_copies_l2 N g0 n0 g1 n1 a2 (L_Mo_copies_l2 N g0 n0 g1 n1 a2 k) x3 σ = some res := h
    unfold B_Mo_copies_l2 at h
    refine V.iload_n d_Mo_copies_2 rfl 3 rfl ?_
    refine V.iload_n d_Mo_copies_3 rfl 2 rfl ?_
    refine V.icmp_ge (tgt := 19) d_Mo_copies_4 (by decide) (fun hc4 => ?_) (fun hc4 => ?_)
    · replace h := ite_t hc4 h
      cases h
      exact V.vret rfl d_Mo_copies_19 (hR _ hg)
    · replace h := ite_f hc4 h
      refine V.aload_n d_Mo_copies_7 rfl 1 rfl ?_
      refine V.iload_n d_Mo_copies_8 rfl 3 rfl ?_
      refine V.aload_n d_Mo_copies_9 rfl 0 rfl ?_
      refine V.iload_n d_Mo_copies_10 rfl 3 rfl ?_
      obtain ⟨gq, h⟩ := grd_e h
      refine V.ra hk0 hy0 (inb_e gq) rfl d_Mo_copies_11 ?_
      obtain ⟨gq, h⟩ := grd_e h
      obtain ⟨σ12, e_σ12, h⟩ := letv_e h
      refine V.wa hk1 hy1 (inb_e gq) rfl d_Mo_copies_12 e_σ12 ?_
      obtain ⟨v13, e_v13, h⟩ := letv_e h
      refine V.iinc (v := v13) (lv' := [(3, .int v13), (0, rf Z g0), (1, rf Z g1), (2, .int a2)]) d_Mo_copies_13 3 rfl (by rw [e_v13]; rfl) (by decide) rfl ?_
      refine V.goto (tgt := 2) d_Mo_copies_16 (by decide) ?_
      exact V.pick [1, 2, 3, 0] rfl (ih _ _ _ h hg)
def f_Mo_copies (N : Nat) (σ : Mem) (g0 : Nat) (n0 : Nat) (g1 : Nat) (n1 : Nat) (a2 : Int32) : Option (Mem) :=
  L_Mo_copies_l2 N g0 n0 g1 n1 a2 N 0 σ
set_option maxHeartbeats 4000000 in
set_option maxRecDepth 20000 in
theorem c_Mo_copies (Z : ZX) {N : Nat} {σ : Mem} {g0 : Nat} {n0 : Nat} {g1 : Nat} {n1 : Nat} {a2 : Int32} {σ' : Mem} (hk0 : g0 < nC) (hy0 : lay1 g0 = .inl (.int, n0)) (hk1 : g1 < nC) (hy1 : lay1 g1 = .inl (.int, n1)) (h : f_Mo_copies N σ g0 n0 g1 n1 a2 = some σ') : CN Z 0 m_Mo_copies [rf Z g0, rf Z g1, .int a2] σ σ' := by
  refine Ct.of (by decide +kernel) (Nat.le_of_ble_eq_true rfl) (fun Y => ?_)
  show V (mkB Z) Y m_Mo_copies 0 (QP (mkB Z) Y nC 0 0 (fun v t => v = none ∧ t = σ')) 0 0 nC σ 0 [(0, rf Z g0), (1, rf Z g1), (2, .int a2)] []
  unfold f_Mo_copies at h
  refine V.iconst (v := 0) d_Mo_copies_0 (by decide) ?_
  refine V.istore_n (lv' := [(3, .int 0), (0, rf Z g0), (1, rf Z g1), (2, .int a2)]) d_Mo_copies_1 rfl (by decide) rfl ?_
  refine V.pick [1, 2, 3, 0] rfl (cL_Mo_copies_l2 Z hk0 hy0 hk1 hy1 (Good := fun z => z = _) (fun r2m he => ?_) N _ _ _ h rfl)
  · cases he
    exact ⟨rfl, rfl⟩
abbrev m_Mo_keep : MI := (⟨"ShadeTownModel", "keep", "()I"⟩, prog_13_method_121_code, 1, (Option.some Jvm.ClassFile.FieldType.int))
theorem d_Mo_keep_0 : decode prog_13_method_121_code 0 = .ok (.aload_n 0, 1) := by decide +kernel
theorem d_Mo_keep_1 : decode prog_13_method_121_code 1 = .ok (.iconst 1, 1) := by decide +kernel
theorem fl_Mo_525 : FL "ShadeTownModel" 525 T_Mo 68 := atG 1400 (by decide +kernel) rfl
theorem d_Mo_keep_2 : decode prog_13_method_121_code 2 = .ok (.putfield 525, 3) := by decide +kernel
theorem d_Mo_keep_5 : decode prog_13_method_121_code 5 = .ok (.aload_n 0, 1) := by decide +kernel
theorem d_Mo_keep_6 : decode prog_13_method_121_code 6 = .ok (.aload_n 0, 1) := by decide +kernel
theorem d_Mo_keep_7 : decode prog_13_method_121_code 7 = .ok (.getfield 167, 3) := by decide +kernel
theorem fl_Mo_529 : FL "ShadeTownModel" 529 T_Mo 69 := atG 1401 (by decide +kernel) rfl
theorem d_Mo_keep_10 : decode prog_13_method_121_code 10 = .ok (.putfield 529, 3) := by decide +kernel
theorem d_Mo_keep_13 : decode prog_13_method_121_code 13 = .ok (.aload_n 0, 1) := by decide +kernel
theorem d_Mo_keep_14 : decode prog_13_method_121_code 14 = .ok (.aload_n 0, 1) := by decide +kernel
theorem d_Mo_keep_15 : decode prog_13_method_121_code 15 = .ok (.getfield 174, 3) := by decide +kernel
theorem fl_Mo_532 : FL "ShadeTownModel" 532 T_Mo 70 := atG 1402 (by decide +kernel) rfl
theorem d_Mo_keep_18 : decode prog_13_method_121_code 18 = .ok (.putfield 532, 3) := by decide +kernel
theorem d_Mo_keep_21 : decode prog_13_method_121_code 21 = .ok (.aload_n 0, 1) := by decide +kernel
theorem d_Mo_keep_22 : decode prog_13_method_121_code 22 = .ok (.aload_n 0, 1) := by decide +kernel
theorem d_Mo_keep_23 : decode prog_13_method_121_code 23 = .ok (.getfield 202, 3) := by decide +kernel
theorem fl_Mo_535 : FL "ShadeTownModel" 535 T_Mo 71 := atG 1403 (by decide +kernel) rfl
theorem d_Mo_keep_26 : decode prog_13_method_121_code 26 = .ok (.putfield 535, 3) := by decide +kernel
theorem d_Mo_keep_29 : decode prog_13_method_121_code 29 = .ok (.aload_n 0, 1) := by decide +kernel
theorem d_Mo_keep_30 : decode prog_13_method_121_code 30 = .ok (.aload_n 0, 1) := by decide +kernel
theorem d_Mo_keep_31 : decode prog_13_method_121_code 31 = .ok (.getfield 163, 3) := by decide +kernel
theorem fl_Mo_538 : FL "ShadeTownModel" 538 T_Mo 72 := atG 1404 (by decide +kernel) rfl
theorem d_Mo_keep_34 : decode prog_13_method_121_code 34 = .ok (.putfield 538, 3) := by decide +kernel
theorem d_Mo_keep_37 : decode prog_13_method_121_code 37 = .ok (.aload_n 0, 1) := by decide +kernel
theorem d_Mo_keep_38 : decode prog_13_method_121_code 38 = .ok (.getfield 7, 3) := by decide +kernel
theorem d_Mo_keep_41 : decode prog_13_method_121_code 41 = .ok (.aload_n 0, 1) := by decide +kernel
theorem fl_Mo_145 : FL "ShadeTownModel" 145 T_Mo 73 := atG 1405 (by decide +kernel) rfl
theorem d_Mo_keep_42 : decode prog_13_method_121_code 42 = .ok (.getfield 145, 3) := by decide +kernel
theorem d_Mo_keep_45 : decode prog_13_method_121_code 45 = .ok (.bipush 16, 2) := by decide +kernel
theorem d_Mo_keep_47 : decode prog_13_method_121_code 47 = .ok (.invokestatic 541, 3) := by decide +kernel
theorem k_Mo_copies : MOk m_Mo_copies 3 ∧ Cond.static m_Mo_copies.1 ∈ tblG := ⟨⟨atG 2041 (by decide +kernel) rfl, atG 122 (by decide +kernel) rfl, ⟨by decide, by decide⟩, by decide +kernel, by decide⟩, atG 2040 (by decide +kernel) rfl⟩
theorem lk_Mo_541 : Cond.methodLink "ShadeTownModel" 541 ⟨"ShadeTownModel", "copies", "([I[II)V"⟩ ∈ tblG := atG 2039 (by decide +kernel) rfl
theorem d_Mo_keep_50 : decode prog_13_method_121_code 50 = .ok (.aload_n 0, 1) := by decide +kernel
theorem d_Mo_keep_51 : decode prog_13_method_121_code 51 = .ok (.getfield 13, 3) := by decide +kernel
theorem d_Mo_keep_54 : decode prog_13_method_121_code 54 = .ok (.aload_n 0, 1) := by decide +kernel
theorem fl_Mo_148 : FL "ShadeTownModel" 148 T_Mo 74 := atG 1406 (by decide +kernel) rfl
theorem d_Mo_keep_55 : decode prog_13_method_121_code 55 = .ok (.getfield 148, 3) := by decide +kernel
theorem d_Mo_keep_58 : decode prog_13_method_121_code 58 = .ok (.bipush 16, 2) := by decide +kernel
theorem d_Mo_keep_60 : decode prog_13_method_121_code 60 = .ok (.invokestatic 541, 3) := by decide +kernel
theorem d_Mo_keep_63 : decode prog_13_method_121_code 63 = .ok (.aload_n 0, 1) := by decide +kernel
theorem d_Mo_keep_64 : decode prog_13_method_121_code 64 = .ok (.getfield 16, 3) := by decide +kernel
theorem d_Mo_keep_67 : decode prog_13_method_121_code 67 = .ok (.aload_n 0, 1) := by decide +kernel
theorem fl_Mo_151 : FL "ShadeTownModel" 151 T_Mo 75 := atG 1407 (by decide +kernel) rfl
theorem d_Mo_keep_68 : decode prog_13_method_121_code 68 = .ok (.getfield 151, 3) := by decide +kernel
theorem d_Mo_keep_71 : decode prog_13_method_121_code 71 = .ok (.bipush 16, 2) := by decide +kernel
theorem d_Mo_keep_73 : decode prog_13_method_121_code 73 = .ok (.invokestatic 541, 3) := by decide +kernel
theorem d_Mo_keep_76 : decode prog_13_method_121_code 76 = .ok (.aload_n 0, 1) := by decide +kernel
theorem d_Mo_keep_77 : decode prog_13_method_121_code 77 = .ok (.getfield 19, 3) := by decide +kernel
theorem d_Mo_keep_80 : decode prog_13_method_121_code 80 = .ok (.aload_n 0, 1) := by decide +kernel
theorem fl_Mo_154 : FL "ShadeTownModel" 154 T_Mo 76 := atG 1408 (by decide +kernel) rfl
theorem d_Mo_keep_81 : decode prog_13_method_121_code 81 = .ok (.getfield 154, 3) := by decide +kernel
theorem d_Mo_keep_84 : decode prog_13_method_121_code 84 = .ok (.bipush 16, 2) := by decide +kernel
theorem d_Mo_keep_86 : decode prog_13_method_121_code 86 = .ok (.invokestatic 541, 3) := by decide +kernel
theorem d_Mo_keep_89 : decode prog_13_method_121_code 89 = .ok (.aload_n 0, 1) := by decide +kernel
theorem d_Mo_keep_90 : decode prog_13_method_121_code 90 = .ok (.getfield 22, 3) := by decide +kernel
theorem d_Mo_keep_93 : decode prog_13_method_121_code 93 = .ok (.aload_n 0, 1) := by decide +kernel
theorem fl_Mo_157 : FL "ShadeTownModel" 157 T_Mo 77 := atG 1409 (by decide +kernel) rfl
theorem d_Mo_keep_94 : decode prog_13_method_121_code 94 = .ok (.getfield 157, 3) := by decide +kernel
theorem d_Mo_keep_97 : decode prog_13_method_121_code 97 = .ok (.bipush 16, 2) := by decide +kernel
theorem d_Mo_keep_99 : decode prog_13_method_121_code 99 = .ok (.invokestatic 541, 3) := by decide +kernel
theorem d_Mo_keep_102 : decode prog_13_method_121_code 102 = .ok (.aload_n 0, 1) := by decide +kernel
theorem d_Mo_keep_103 : decode prog_13_method_121_code 103 = .ok (.getfield 25, 3) := by decide +kernel
theorem d_Mo_keep_106 : decode prog_13_method_121_code 106 = .ok (.aload_n 0, 1) := by decide +kernel
theorem fl_Mo_160 : FL "ShadeTownModel" 160 T_Mo 78 := atG 1410 (by decide +kernel) rfl
theorem d_Mo_keep_107 : decode prog_13_method_121_code 107 = .ok (.getfield 160, 3) := by decide +kernel
theorem d_Mo_keep_110 : decode prog_13_method_121_code 110 = .ok (.bipush 6, 2) := by decide +kernel
theorem d_Mo_keep_112 : decode prog_13_method_121_code 112 = .ok (.invokestatic 541, 3) := by decide +kernel
theorem d_Mo_keep_115 : decode prog_13_method_121_code 115 = .ok (.aload_n 0, 1) := by decide +kernel
theorem d_Mo_keep_116 : decode prog_13_method_121_code 116 = .ok (.getfield 174, 3) := by decide +kernel
theorem d_Mo_keep_119 : decode prog_13_method_121_code 119 = .ok (.invokestatic 376, 3) := by decide +kernel
theorem d_Mo_keep_122 : decode prog_13_method_121_code 122 = .ok (.ireturn, 1) := by decide +kernel
def f_Mo_keep (N : Nat) (σ : Mem) : Option (Int32 × Mem) :=
  letv (sI σ 65 68 1) fun σ2 =>
  letv (sI σ2 65 69 (mI σ2 65 0)) fun σ10 =>
  letv (sI σ10 65 70 (mI σ10 65 1)) fun σ18 =>
  letv (sI σ18 65 71 (mI σ18 65 2)) fun σ26 =>
  letv (sI σ26 65 72 (mI σ26 65 3)) fun σ34 =>
  bnd1 (f_Mo_copies N σ34 66 17 110 17 16) fun σ47 =>
  bnd1 (f_Mo_copies N σ47 67 17 111 17 16) fun σ60 =>
  bnd1 (f_Mo_copies N σ60 68 17 112 17 16) fun σ73 =>
  bnd1 (f_Mo_copies N σ73 69 17 113 17 16) fun σ86 =>
  bnd1 (f_Mo_copies N σ86 70 17 114 17 16) fun σ99 =>
  bnd1 (f_Mo_copies N σ99 71 6 115 6 6) fun σ112 =>
  bnd1 (f_Mo_bits N (mI σ112 65 1)) fun r119 =>
  some (r119, σ112)
set_option maxHeartbeats 4000000 in
set_option maxRecDepth 20000 in
theorem c_Mo_keep (Z : ZX) {N : Nat} {σ : Mem} {r : Int32} {σ' : Mem} (h : f_Mo_keep N σ = some (r, σ')) : CI Z 1 m_Mo_keep [rf Z 65] σ r σ' := by
  refine Ct.of (by decide +kernel) (Nat.le_of_ble_eq_true rfl) (fun Y => ?_)
  show V (mkB Z) Y m_Mo_keep 1 (QP (mkB Z) Y nC 0 0 (fun v t => v = some (.int r) ∧ t = σ')) 0 0 nC σ 0 [(0, rf Z 65)] []
  unfold f_Mo_keep at h
  refine V.aload_n d_Mo_keep_0 rfl 0 rfl ?_
  refine V.iconst (v := 1) d_Mo_keep_1 (by decide) ?_
  obtain ⟨σ2, e_σ2, h⟩ := letv_e h
  refine V.putI ok_Mo fl_Mo_525 (by decide) (by decide) ly_65 rfl rfl rfl rfl d_Mo_keep_2 (V.mem e_σ2 ?_)
  refine V.aload_n d_Mo_keep_5 rfl 0 rfl ?_
  refine V.aload_n d_Mo_keep_6 rfl 0 rfl ?_
  refine V.getI ok_Mo fl_Mo_167 (by decide) (by decide) ly_65 rfl d_Mo_keep_7 ?_
  obtain ⟨σ10, e_σ10, h⟩ := letv_e h
  refine V.putI ok_Mo fl_Mo_529 (by decide) (by decide) ly_65 rfl rfl rfl rfl d_Mo_keep_10 (V.mem e_σ10 ?_)
  refine V.aload_n d_Mo_keep_13 rfl 0 rfl ?_
  refine V.aload_n d_Mo_keep_14 rfl 0 rfl ?_
  refine V.getI ok_Mo fl_Mo_174 (by decide) (by decide) ly_65 rfl d_Mo_keep_15 ?_
  obtain ⟨σ18, e_σ18, h⟩ := letv_e h
  refine V.putI ok_Mo fl_Mo_532 (by decide) (by decide) ly_65 rfl rfl rfl rfl d_Mo_keep_18 (V.mem e_σ18 ?_)
  refine V.aload_n d_Mo_keep_21 rfl 0 rfl ?_
  refine V.aload_n d_Mo_keep_22 rfl 0 rfl ?_
  refine V.getI ok_Mo fl_Mo_202 (by decide) (by decide) ly_65 rfl d_Mo_keep_23 ?_
  obtain ⟨σ26, e_σ26, h⟩ := letv_e h
  refine V.putI ok_Mo fl_Mo_535 (by decide) (by decide) ly_65 rfl rfl rfl rfl d_Mo_keep_26 (V.mem e_σ26 ?_)
  refine V.aload_n d_Mo_keep_29 rfl 0 rfl ?_
  refine V.aload_n d_Mo_keep_30 rfl 0 rfl ?_
  refine V.getI ok_Mo fl_Mo_163 (by decide) (by decide) ly_65 rfl d_Mo_keep_31 ?_
  obtain ⟨σ34, e_σ34, h⟩ := letv_e h
  refine V.putI ok_Mo fl_Mo_538 (by decide) (by decide) ly_65 rfl rfl rfl rfl d_Mo_keep_34 (V.mem e_σ34 ?_)
  refine V.aload_n d_Mo_keep_37 rfl 0 rfl ?_
  refine V.getR (r := 66) ok_Mo fl_Mo_7 (by decide) (by decide) ly_65 rfl d_Mo_keep_38 ?_
  refine V.aload_n d_Mo_keep_41 rfl 0 rfl ?_
  refine V.getR (r := 110) ok_Mo fl_Mo_145 (by decide) (by decide) ly_65 rfl d_Mo_keep_42 ?_
  refine V.bipush (v := 16) d_Mo_keep_45 (by decide) ?_
  obtain ⟨σ47, h1, h⟩ := bnd1_e h
  refine V.sN (as := [rf Z 66, rf Z 110, .int 16]) (st := []) (c_Mo_copies Z (by decide) ly_66 (by decide) ly_110 h1) k_Mo_copies lk_Mo_541 (by decide) rfl rfl (Nat.le_of_ble_eq_true rfl) d_Mo_keep_47 ?_
  refine V.aload_n d_Mo_keep_50 rfl 0 rfl ?_
  refine V.getR (r := 67) ok_Mo fl_Mo_13 (by decide) (by decide) ly_65 rfl d_Mo_keep_51 ?_
  refine V.aload_n d_Mo_keep_54 rfl 0 rfl ?_
  refine V.getR (r := 111) ok_Mo fl_Mo_148 (by decide) (by decide) ly_65 rfl d_Mo_keep_55 ?_
  refine V.bipush (v := 16) d_Mo_keep_58 (by decide) ?_
  obtain ⟨σ60, h1, h⟩ := bnd1_e h
  refine V.sN (as := [rf Z 67, rf Z 111, .int 16]) (st := []) (c_Mo_copies Z (by decide) ly_67 (by decide) ly_111 h1) k_Mo_copies lk_Mo_541 (by decide) rfl rfl (Nat.le_of_ble_eq_true rfl) d_Mo_keep_60 ?_
  refine V.aload_n d_Mo_keep_63 rfl 0 rfl ?_
  refine V.getR (r := 68) ok_Mo fl_Mo_16 (by decide) (by decide) ly_65 rfl d_Mo_keep_64 ?_
  refine V.aload_n d_Mo_keep_67 rfl 0 rfl ?_
  refine V.getR (r := 112) ok_Mo fl_Mo_151 (by decide) (by decide) ly_65 rfl d_Mo_keep_68 ?_
  refine V.bipush (v := 16) d_Mo_keep_71 (by decide) ?_
  obtain ⟨σ73, h1, h⟩ := bnd1_e h
  refine V.sN (as := [rf Z 68, rf Z 112, .int 16]) (st := []) (c_Mo_copies Z (by decide) ly_68 (by decide) ly_112 h1) k_Mo_copies lk_Mo_541 (by decide) rfl rfl (Nat.le_of_ble_eq_true rfl) d_Mo_keep_73 ?_
  refine V.aload_n d_Mo_keep_76 rfl 0 rfl ?_
  refine V.getR (r := 69) ok_Mo fl_Mo_19 (by decide) (by decide) ly_65 rfl d_Mo_keep_77 ?_
  refine V.aload_n d_Mo_keep_80 rfl 0 rfl ?_
  refine V.getR (r := 113) ok_Mo fl_Mo_154 (by decide) (by decide) ly_65 rfl d_Mo_keep_81 ?_
  refine V.bipush (v := 16) d_Mo_keep_84 (by decide) ?_
  obtain ⟨σ86, h1, h⟩ := bnd1_e h
  refine V.sN (as := [rf Z 69, rf Z 113, .int 16]) (st := []) (c_Mo_copies Z (by decide) ly_69 (by decide) ly_113 h1) k_Mo_copies lk_Mo_541 (by decide) rfl rfl (Nat.le_of_ble_eq_true rfl) d_Mo_keep_86 ?_
  refine V.aload_n d_Mo_keep_89 rfl 0 rfl ?_
  refine V.getR (r := 70) ok_Mo fl_Mo_22 (by decide) (by decide) ly_65 rfl d_Mo_keep_90 ?_
  refine V.aload_n d_Mo_keep_93 rfl 0 rfl ?_
  refine V.getR (r := 114) ok_Mo fl_Mo_157 (by decide) (by decide) ly_65 rfl d_Mo_keep_94 ?_
  refine V.bipush (v := 16) d_Mo_keep_97 (by decide) ?_
  obtain ⟨σ99, h1, h⟩ := bnd1_e h
  refine V.sN (as := [rf Z 70, rf Z 114, .int 16]) (st := []) (c_Mo_copies Z (by decide) ly_70 (by decide) ly_114 h1) k_Mo_copies lk_Mo_541 (by decide) rfl rfl (Nat.le_of_ble_eq_true rfl) d_Mo_keep_99 ?_
  refine V.aload_n d_Mo_keep_102 rfl 0 rfl ?_
  refine V.getR (r := 71) ok_Mo fl_Mo_25 (by decide) (by decide) ly_65 rfl d_Mo_keep_103 ?_
  refine V.aload_n d_Mo_keep_106 rfl 0 rfl ?_
  refine V.getR (r := 115) ok_Mo fl_Mo_160 (by decide) (by decide) ly_65 rfl d_Mo_keep_107 ?_
  refine V.bipush (v := 6) d_Mo_keep_110 (by decide) ?_
  obtain ⟨σ112, h1, h⟩ := bnd1_e h
  refine V.sN (as := [rf Z 71, rf Z 115, .int 6]) (st := []) (c_Mo_copies Z (by decide) ly_71 (by decide) ly_115 h1) k_Mo_copies lk_Mo_541 (by decide) rfl rfl (Nat.le_of_ble_eq_true rfl) d_Mo_keep_112 ?_
  refine V.aload_n d_Mo_keep_115 rfl 0 rfl ?_
  refine V.getI ok_Mo fl_Mo_174 (by decide) (by decide) ly_65 rfl d_Mo_keep_116 ?_
  obtain ⟨r119, h1, h⟩ := bnd1_e h
  refine V.sI (as := [.int (mI σ112 65 1)]) (st := []) (c_Mo_bits Z h1) k_Mo_bits lk_Mo_376 (by decide) rfl rfl (Nat.le_of_ble_eq_true rfl) d_Mo_keep_119 ?_
  cases h
  exact V.iret rfl d_Mo_keep_122 ⟨rfl, rfl⟩
