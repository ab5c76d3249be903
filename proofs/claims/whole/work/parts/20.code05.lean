abbrev m_Da_spread : MI := (⟨"ShadeTown$Day", "spread", "(II[III)V"⟩, prog_3_method_25_code, 11, (Option.none : Option Jvm.ClassFile.FieldType))
theorem d_Da_spread_0 : decode prog_3_method_25_code 0 = .ok (.aload_n 0, 1) := by decide +kernel
theorem d_Da_spread_1 : decode prog_3_method_25_code 1 = .ok (.getfield 41, 3) := by decide +kernel
theorem fl_Da_129 : FL "ShadeTown$Day" 129 T_To 1 := atG 221 (by decide +kernel) rfl
theorem d_Da_spread_4 : decode prog_3_method_25_code 4 = .ok (.getfield 129, 3) := by decide +kernel
theorem d_Da_spread_7 : decode prog_3_method_25_code 7 = .ok (.iload_n 1, 1) := by decide +kernel
theorem d_Da_spread_8 : decode prog_3_method_25_code 8 = .ok (.iaload, 1) := by decide +kernel
theorem d_Da_spread_9 : decode prog_3_method_25_code 9 = .ok (.bipush 12, 2) := by decide +kernel
theorem d_Da_spread_11 : decode prog_3_method_25_code 11 = .ok (.irem, 1) := by decide +kernel
theorem d_Da_spread_12 : decode prog_3_method_25_code 12 = .ok (.istore 6, 2) := by decide +kernel
theorem d_Da_spread_14 : decode prog_3_method_25_code 14 = .ok (.aload_n 0, 1) := by decide +kernel
theorem d_Da_spread_15 : decode prog_3_method_25_code 15 = .ok (.getfield 41, 3) := by decide +kernel
theorem d_Da_spread_18 : decode prog_3_method_25_code 18 = .ok (.getfield 129, 3) := by decide +kernel
theorem d_Da_spread_21 : decode prog_3_method_25_code 21 = .ok (.iload_n 1, 1) := by decide +kernel
theorem d_Da_spread_22 : decode prog_3_method_25_code 22 = .ok (.iaload, 1) := by decide +kernel
theorem d_Da_spread_23 : decode prog_3_method_25_code 23 = .ok (.bipush 12, 2) := by decide +kernel
theorem d_Da_spread_25 : decode prog_3_method_25_code 25 = .ok (.idiv, 1) := by decide +kernel
theorem d_Da_spread_26 : decode prog_3_method_25_code 26 = .ok (.istore 7, 2) := by decide +kernel
theorem d_Da_spread_28 : decode prog_3_method_25_code 28 = .ok (.aload_n 0, 1) := by decide +kernel
theorem d_Da_spread_29 : decode prog_3_method_25_code 29 = .ok (.getfield 41, 3) := by decide +kernel
theorem fl_Da_135 : FL "ShadeTown$Day" 135 T_To 0 := atG 218 (by decide +kernel) rfl
theorem d_Da_spread_32 : decode prog_3_method_25_code 32 = .ok (.getfield 135, 3) := by decide +kernel
theorem d_Da_spread_35 : decode prog_3_method_25_code 35 = .ok (.iload_n 1, 1) := by decide +kernel
theorem d_Da_spread_36 : decode prog_3_method_25_code 36 = .ok (.iaload, 1) := by decide +kernel
theorem d_Da_spread_37 : decode prog_3_method_25_code 37 = .ok (.iconst 2, 1) := by decide +kernel
theorem d_Da_spread_106 : decode prog_3_method_25_code 106 = .ok (.aload_n 0, 1) := by decide +kernel
theorem d_Da_spread_107 : decode prog_3_method_25_code 107 = .ok (.getfield 41, 3) := by decide +kernel
theorem d_Da_spread_110 : decode prog_3_method_25_code 110 = .ok (.getfield 135, 3) := by decide +kernel
theorem d_Da_spread_113 : decode prog_3_method_25_code 113 = .ok (.iload_n 1, 1) := by decide +kernel
theorem d_Da_spread_114 : decode prog_3_method_25_code 114 = .ok (.iaload, 1) := by decide +kernel
theorem d_Da_spread_115 : decode prog_3_method_25_code 115 = .ok (.iconst 1, 1) := by decide +kernel
theorem d_Da_spread_119 : decode prog_3_method_25_code 119 = .ok (.iload 6, 2) := by decide +kernel
theorem d_Da_spread_121 : decode prog_3_method_25_code 121 = .ok (.iload 7, 2) := by decide +kernel
theorem d_Da_spread_123 : decode prog_3_method_25_code 123 = .ok (.aload_n 3, 1) := by decide +kernel
theorem d_Da_spread_124 : decode prog_3_method_25_code 124 = .ok (.iload 4, 2) := by decide +kernel
theorem d_Da_spread_126 : decode prog_3_method_25_code 126 = .ok (.iload 5, 2) := by decide +kernel
theorem d_Da_spread_128 : decode prog_3_method_25_code 128 = .ok (.invokestatic 150, 3) := by decide +kernel
theorem k_Da_mark : MOk m_Da_mark 5 ∧ Cond.static m_Da_mark.1 ∈ tblG := ⟨⟨atG 806 (by decide +kernel) rfl, atG 116 (by decide +kernel) rfl, ⟨by decide, by decide⟩, by decide +kernel, by decide⟩, atG 805 (by decide +kernel) rfl⟩
theorem lk_Da_150 : Cond.methodLink "ShadeTown$Day" 150 ⟨"ShadeTown$Day", "mark", "(II[III)V"⟩ ∈ tblG := atG 804 (by decide +kernel) rfl
theorem d_Da_spread_116 : decode prog_3_method_25_code 116 = .ok (.if_icmp .ne 15, 3) := by decide +kernel
theorem d_Da_spread_131 : decode prog_3_method_25_code 131 = .ok (.aload_n 0, 1) := by decide +kernel
theorem d_Da_spread_132 : decode prog_3_method_25_code 132 = .ok (.getfield 15, 3) := by decide +kernel
theorem d_Da_spread_135 : decode prog_3_method_25_code 135 = .ok (.iload_n 2, 1) := by decide +kernel
theorem d_Da_spread_136 : decode prog_3_method_25_code 136 = .ok (.iaload, 1) := by decide +kernel
theorem d_Da_spread_137 : decode prog_3_method_25_code 137 = .ok (.invokestatic 153, 3) := by decide +kernel
theorem k_JM_abs_0f7a4 : MOk m_JM_abs_0f7a4 1 ∧ Cond.static m_JM_abs_0f7a4.1 ∈ tblG := ⟨⟨atG 810 (by decide +kernel) rfl, atG 123 (by decide +kernel) rfl, ⟨by decide, by decide⟩, by decide +kernel, by decide⟩, atG 809 (by decide +kernel) rfl⟩
theorem lk_Da_153 : Cond.methodLink "ShadeTown$Day" 153 ⟨"java/lang/Math", "abs", "(I)I"⟩ ∈ tblG := atG 808 (by decide +kernel) rfl
theorem d_Da_spread_140 : decode prog_3_method_25_code 140 = .ok (.aload_n 0, 1) := by decide +kernel
theorem d_Da_spread_141 : decode prog_3_method_25_code 141 = .ok (.getfield 19, 3) := by decide +kernel
theorem d_Da_spread_144 : decode prog_3_method_25_code 144 = .ok (.iload_n 2, 1) := by decide +kernel
theorem d_Da_spread_145 : decode prog_3_method_25_code 145 = .ok (.iaload, 1) := by decide +kernel
theorem d_Da_spread_146 : decode prog_3_method_25_code 146 = .ok (.invokestatic 153, 3) := by decide +kernel
theorem d_Da_spread_149 : decode prog_3_method_25_code 149 = .ok (.invokestatic 158, 3) := by decide +kernel
theorem lk_Da_158 : Cond.methodLink "ShadeTown$Day" 158 ⟨"java/lang/Math", "max", "(II)I"⟩ ∈ tblG := atG 811 (by decide +kernel) rfl
theorem d_Da_spread_152 : decode prog_3_method_25_code 152 = .ok (.istore 8, 2) := by decide +kernel
theorem d_Da_spread_154 : decode prog_3_method_25_code 154 = .ok (.iload 8, 2) := by decide +kernel
theorem d_Da_spread_160 : decode prog_3_method_25_code 160 = .ok (.bipush 15, 2) := by decide +kernel
theorem d_Da_spread_162 : decode prog_3_method_25_code 162 = .ok (.iload 8, 2) := by decide +kernel
theorem d_Da_spread_164 : decode prog_3_method_25_code 164 = .ok (.aload_n 0, 1) := by decide +kernel
theorem d_Da_spread_165 : decode prog_3_method_25_code 165 = .ok (.getfield 41, 3) := by decide +kernel
theorem fl_Da_141 : FL "ShadeTown$Day" 141 T_To 2 := atG 224 (by decide +kernel) rfl
theorem d_Da_spread_168 : decode prog_3_method_25_code 168 = .ok (.getfield 141, 3) := by decide +kernel
theorem d_Da_spread_171 : decode prog_3_method_25_code 171 = .ok (.iload_n 1, 1) := by decide +kernel
theorem d_Da_spread_172 : decode prog_3_method_25_code 172 = .ok (.iaload, 1) := by decide +kernel
theorem d_Da_spread_173 : decode prog_3_method_25_code 173 = .ok (.imul, 1) := by decide +kernel
theorem d_Da_spread_174 : decode prog_3_method_25_code 174 = .ok (.bipush 12, 2) := by decide +kernel
theorem d_Da_spread_176 : decode prog_3_method_25_code 176 = .ok (.idiv, 1) := by decide +kernel
theorem d_Da_spread_177 : decode prog_3_method_25_code 177 = .ok (.invokestatic 161, 3) := by decide +kernel
theorem lk_Da_161 : Cond.methodLink "ShadeTown$Day" 161 ⟨"java/lang/Math", "min", "(II)I"⟩ ∈ tblG := atG 812 (by decide +kernel) rfl
theorem d_Da_spread_180 : decode prog_3_method_25_code 180 = .ok (.istore 9, 2) := by decide +kernel
theorem d_Da_spread_182 : decode prog_3_method_25_code 182 = .ok (.iconst 1, 1) := by decide +kernel
theorem d_Da_spread_183 : decode prog_3_method_25_code 183 = .ok (.istore 10, 2) := by decide +kernel
theorem d_Da_spread_185 : decode prog_3_method_25_code 185 = .ok (.iload 10, 2) := by decide +kernel
theorem d_Da_spread_187 : decode prog_3_method_25_code 187 = .ok (.iload 9, 2) := by decide +kernel
theorem d_Da_spread_236 : decode prog_3_method_25_code 236 = .ok (.return_, 1) := by decide +kernel
theorem d_Da_spread_192 : decode prog_3_method_25_code 192 = .ok (.iload 6, 2) := by decide +kernel
theorem d_Da_spread_194 : decode prog_3_method_25_code 194 = .ok (.aload_n 0, 1) := by decide +kernel
theorem d_Da_spread_195 : decode prog_3_method_25_code 195 = .ok (.getfield 15, 3) := by decide +kernel
theorem d_Da_spread_198 : decode prog_3_method_25_code 198 = .ok (.iload_n 2, 1) := by decide +kernel
theorem d_Da_spread_199 : decode prog_3_method_25_code 199 = .ok (.iaload, 1) := by decide +kernel
theorem d_Da_spread_200 : decode prog_3_method_25_code 200 = .ok (.iload 10, 2) := by decide +kernel
theorem d_Da_spread_202 : decode prog_3_method_25_code 202 = .ok (.imul, 1) := by decide +kernel
theorem d_Da_spread_203 : decode prog_3_method_25_code 203 = .ok (.iload 8, 2) := by decide +kernel
theorem d_Da_spread_205 : decode prog_3_method_25_code 205 = .ok (.idiv, 1) := by decide +kernel
theorem d_Da_spread_206 : decode prog_3_method_25_code 206 = .ok (.iadd, 1) := by decide +kernel
theorem d_Da_spread_207 : decode prog_3_method_25_code 207 = .ok (.iload 7, 2) := by decide +kernel
theorem d_Da_spread_209 : decode prog_3_method_25_code 209 = .ok (.aload_n 0, 1) := by decide +kernel
theorem d_Da_spread_210 : decode prog_3_method_25_code 210 = .ok (.getfield 19, 3) := by decide +kernel
theorem d_Da_spread_213 : decode prog_3_method_25_code 213 = .ok (.iload_n 2, 1) := by decide +kernel
theorem d_Da_spread_214 : decode prog_3_method_25_code 214 = .ok (.iaload, 1) := by decide +kernel
theorem d_Da_spread_215 : decode prog_3_method_25_code 215 = .ok (.iload 10, 2) := by decide +kernel
theorem d_Da_spread_217 : decode prog_3_method_25_code 217 = .ok (.imul, 1) := by decide +kernel
theorem d_Da_spread_218 : decode prog_3_method_25_code 218 = .ok (.iload 8, 2) := by decide +kernel
theorem d_Da_spread_220 : decode prog_3_method_25_code 220 = .ok (.idiv, 1) := by decide +kernel
theorem d_Da_spread_221 : decode prog_3_method_25_code 221 = .ok (.iadd, 1) := by decide +kernel
theorem d_Da_spread_222 : decode prog_3_method_25_code 222 = .ok (.aload_n 3, 1) := by decide +kernel
theorem d_Da_spread_223 : decode prog_3_method_25_code 223 = .ok (.iload 4, 2) := by decide +kernel
theorem d_Da_spread_225 : decode prog_3_method_25_code 225 = .ok (.iload 5, 2) := by decide +kernel
theorem d_Da_spread_227 : decode prog_3_method_25_code 227 = .ok (.invokestatic 150, 3) := by decide +kernel
theorem d_Da_spread_230 : decode prog_3_method_25_code 230 = .ok (.iinc 10 1, 3) := by decide +kernel
theorem d_Da_spread_233 : decode prog_3_method_25_code 233 = .ok (.goto (-48), 3) := by decide +kernel
theorem d_Da_spread_189 : decode prog_3_method_25_code 189 = .ok (.if_icmp .gt 47, 3) := by decide +kernel
theorem d_Da_spread_159 : decode prog_3_method_25_code 159 = .ok (.return_, 1) := by decide +kernel
theorem d_Da_spread_156 : decode prog_3_method_25_code 156 = .ok (.ifCond .ne 4, 3) := by decide +kernel
theorem d_Da_spread_41 : decode prog_3_method_25_code 41 = .ok (.aload_n 0, 1) := by decide +kernel
theorem d_Da_spread_42 : decode prog_3_method_25_code 42 = .ok (.getfield 41, 3) := by decide +kernel
theorem fl_Da_138 : FL "ShadeTown$Day" 138 T_To 3 := atG 227 (by decide +kernel) rfl
theorem d_Da_spread_45 : decode prog_3_method_25_code 45 = .ok (.getfield 138, 3) := by decide +kernel
theorem d_Da_spread_48 : decode prog_3_method_25_code 48 = .ok (.iload_n 1, 1) := by decide +kernel
theorem d_Da_spread_49 : decode prog_3_method_25_code 49 = .ok (.iaload, 1) := by decide +kernel
theorem d_Da_spread_50 : decode prog_3_method_25_code 50 = .ok (.istore 8, 2) := by decide +kernel
theorem d_Da_spread_52 : decode prog_3_method_25_code 52 = .ok (.iconst 0, 1) := by decide +kernel
theorem d_Da_spread_53 : decode prog_3_method_25_code 53 = .ok (.istore 9, 2) := by decide +kernel
theorem d_Da_spread_55 : decode prog_3_method_25_code 55 = .ok (.iload 9, 2) := by decide +kernel
theorem d_Da_spread_57 : decode prog_3_method_25_code 57 = .ok (.aload_n 0, 1) := by decide +kernel
theorem d_Da_spread_58 : decode prog_3_method_25_code 58 = .ok (.getfield 41, 3) := by decide +kernel
theorem d_Da_spread_61 : decode prog_3_method_25_code 61 = .ok (.getfield 141, 3) := by decide +kernel
theorem d_Da_spread_64 : decode prog_3_method_25_code 64 = .ok (.iload_n 1, 1) := by decide +kernel
theorem d_Da_spread_65 : decode prog_3_method_25_code 65 = .ok (.iaload, 1) := by decide +kernel
theorem d_Da_spread_105 : decode prog_3_method_25_code 105 = .ok (.return_, 1) := by decide +kernel
theorem d_Da_spread_69 : decode prog_3_method_25_code 69 = .ok (.iload 6, 2) := by decide +kernel
theorem d_Da_spread_71 : decode prog_3_method_25_code 71 = .ok (.iload 9, 2) := by decide +kernel
theorem d_Da_spread_73 : decode prog_3_method_25_code 73 = .ok (.iload 8, 2) := by decide +kernel
theorem d_Da_spread_75 : decode prog_3_method_25_code 75 = .ok (.invokestatic 144, 3) := by decide +kernel
theorem k_Sh_eastOf : MOk m_Sh_eastOf 1 ∧ Cond.static m_Sh_eastOf.1 ∈ tblG := ⟨⟨atG 800 (by decide +kernel) rfl, atG 111 (by decide +kernel) rfl, ⟨by decide, by decide⟩, by decide +kernel, by decide⟩, atG 799 (by decide +kernel) rfl⟩
theorem ln_Da_144 : Cond.methodLinkNest "ShadeTown$Day" 144 ⟨"ShadeTown", "eastOf", "(I)I"⟩ "ShadeTown" ∈ nestW := List.mem_of_getElem? (i := 8) rfl
theorem d_Da_spread_78 : decode prog_3_method_25_code 78 = .ok (.imul, 1) := by decide +kernel
theorem d_Da_spread_79 : decode prog_3_method_25_code 79 = .ok (.iadd, 1) := by decide +kernel
theorem d_Da_spread_80 : decode prog_3_method_25_code 80 = .ok (.iload 7, 2) := by decide +kernel
theorem d_Da_spread_82 : decode prog_3_method_25_code 82 = .ok (.iload 9, 2) := by decide +kernel
theorem d_Da_spread_84 : decode prog_3_method_25_code 84 = .ok (.iload 8, 2) := by decide +kernel
theorem d_Da_spread_86 : decode prog_3_method_25_code 86 = .ok (.invokestatic 147, 3) := by decide +kernel
theorem k_Sh_northOf : MOk m_Sh_northOf 1 ∧ Cond.static m_Sh_northOf.1 ∈ tblG := ⟨⟨atG 803 (by decide +kernel) rfl, atG 111 (by decide +kernel) rfl, ⟨by decide, by decide⟩, by decide +kernel, by decide⟩, atG 802 (by decide +kernel) rfl⟩
theorem ln_Da_147 : Cond.methodLinkNest "ShadeTown$Day" 147 ⟨"ShadeTown", "northOf", "(I)I"⟩ "ShadeTown" ∈ nestW := List.mem_of_getElem? (i := 9) rfl
theorem d_Da_spread_89 : decode prog_3_method_25_code 89 = .ok (.imul, 1) := by decide +kernel
theorem d_Da_spread_90 : decode prog_3_method_25_code 90 = .ok (.iadd, 1) := by decide +kernel
theorem d_Da_spread_91 : decode prog_3_method_25_code 91 = .ok (.aload_n 3, 1) := by decide +kernel
theorem d_Da_spread_92 : decode prog_3_method_25_code 92 = .ok (.iload 4, 2) := by decide +kernel
theorem d_Da_spread_94 : decode prog_3_method_25_code 94 = .ok (.iload 5, 2) := by decide +kernel
theorem d_Da_spread_96 : decode prog_3_method_25_code 96 = .ok (.invokestatic 150, 3) := by decide +kernel
theorem d_Da_spread_99 : decode prog_3_method_25_code 99 = .ok (.iinc 9 1, 3) := by decide +kernel
theorem d_Da_spread_102 : decode prog_3_method_25_code 102 = .ok (.goto (-47), 3) := by decide +kernel
theorem d_Da_spread_66 : decode prog_3_method_25_code 66 = .ok (.if_icmp .ge 39, 3) := by decide +kernel
theorem d_Da_spread_38 : decode prog_3_method_25_code 38 = .ok (.if_icmp .ne 68, 3) := by decide +kernel
def B_Da_spread_l185 (N : Nat) (a2 : Int32) (g3 n3 : Nat) (a4 : Int32) (a5 : Int32) (a6 : Int32) (a7 : Int32) (a8 : Int32) (a9 : Int32) (rec : Int32 → Mem → Option (Mem)) (x10 : Int32) (σ : Mem) : Option (Mem) :=
  if a9 < x10 then
    (some σ)
  else
    (grd (inb a2 24) <|
    grd (decide (¬ a8 = 0)) <|
    grd (inb a2 24) <|
    grd (decide (¬ a8 = 0)) <|
    bnd1 (f_Da_mark σ (a6 + (((mI σ 35 (a2.toNatClampNeg)) * x10) / a8)) (a7 + (((mI σ 36 (a2.toNatClampNeg)) * x10) / a8)) g3 n3 a4 a5) fun σ227 =>
    letv (x10 + 1) fun v230 =>
    rec v230 σ227)
def L_Da_spread_l185 (N : Nat) (a2 : Int32) (g3 n3 : Nat) (a4 : Int32) (a5 : Int32) (a6 : Int32) (a7 : Int32) (a8 : Int32) (a9 : Int32) : Nat → Int32 → Mem → Option (Mem)
  | 0, _, _ => none
  | k + 1, x10, σ => B_Da_spread_l185 N a2 g3 n3 a4 a5 a6 a7 a8 a9 (L_Da_spread_l185 N a2 g3 n3 a4 a5 a6 a7 a8 a9 k) x10 σ
set_option maxHeartbeats 4000000 in
set_option maxRecDepth 20000 in
theorem cL_Da_spread_l185 (Z : ZX) {Y : YX} {post : Option Value → Mem → Prop} {N : Nat} {a2 : Int32} {g3 n3 : Nat} {a4 : Int32} {a5 : Int32} {a6 : Int32} {a7 : Int32} {a8 : Int32} {a9 : Int32} (hk3 : g3 < nC) (hy3 : lay1 g3 = .inl (.int, n3)) {Good : Mem → Prop} (hR : ∀ (σr : Mem), Good σr → post none σr) : ∀ (k : Nat) (x10 : Int32) (σ : Mem) (res : Mem), L_Da_spread_l185 N a2 g3 n3 a4 a5 a6 a7 a8 a9 k x10 σ = some res → Good res → V (mkB Z) Y m_Da_spread 2 (QP (mkB Z) Y nC 0 0 post) 0 0 nC σ 185 [(0, rf Z 33), (2, .int a2), (3, rf Z g3), (4, .int a4), (5, .int a5), (6, .int a6), (7, .int a7), (8, .int a8), (9, .int a9), (10, .int x10)] [] := by
  intro k
  induction k with
  | zero => intro x10 σ res h; cases h
  | succ k ih =>
    intro x10 σ res h hg
    replace h : B_Da_spread_l185 N a2 g3 n3 a4 a5 a6 a7 a8 a9 (L_Da_spread_l185 N a2 g3 n3 a4 a5 a6 a7 a8 a9 k) x10 σ = some res := h
    unfold B_Da_spread_l185 at h
    refine V.iload d_Da_spread_185 9 rfl ?_
    refine V.iload d_Da_spread_187 8 rfl ?_
    refine V.icmp_gt (tgt := 236) d_Da_spread_189 (by decide) (fun hc189 => ?_) (fun hc189 => ?_)
    · replace h := ite_t hc189 h
      cases h
      exact V.vret rfl d_Da_spread_236 (hR _ hg)
    · replace h := ite_f hc189 h
      refine V.iload d_Da_spread_192 5 rfl ?_
      refine V.aload_n d_Da_spread_194 rfl 0 rfl ?_
      refine V.getR (r := 35) ok_Da fl_Da_15 (by decide) (by decide) ly_33 rfl d_Da_spread_195 ?_
      refine V.iload_n d_Da_spread_198 rfl 1 rfl ?_
      obtain ⟨gq, h⟩ := grd_e h
      refine V.ra (by decide) ly_35 (inb_e gq) rfl d_Da_spread_199 ?_
      refine V.iload d_Da_spread_200 9 rfl ?_
      refine V.imul d_Da_spread_202 ?_
      refine V.iload d_Da_spread_203 7 rfl ?_
      obtain ⟨gq, h⟩ := grd_e h
      refine V.idiv d_Da_spread_205 (of_decide_eq_true gq) ?_
      refine V.iadd d_Da_spread_206 ?_
      refine V.iload d_Da_spread_207 6 rfl ?_
      refine V.aload_n d_Da_spread_209 rfl 0 rfl ?_
      refine V.getR (r := 36) ok_Da fl_Da_19 (by decide) (by decide) ly_33 rfl d_Da_spread_210 ?_
      refine V.iload_n d_Da_spread_213 rfl 1 rfl ?_
      obtain ⟨gq, h⟩ := grd_e h
      refine V.ra (by decide) ly_36 (inb_e gq) rfl d_Da_spread_214 ?_
      refine V.iload d_Da_spread_215 9 rfl ?_
      refine V.imul d_Da_spread_217 ?_
      refine V.iload d_Da_spread_218 7 rfl ?_
      obtain ⟨gq, h⟩ := grd_e h
      refine V.idiv d_Da_spread_220 (of_decide_eq_true gq) ?_
      refine V.iadd d_Da_spread_221 ?_
      refine V.aload_n d_Da_spread_222 rfl 2 rfl ?_
      refine V.iload d_Da_spread_223 3 rfl ?_
      refine V.iload d_Da_spread_225 4 rfl ?_
      obtain ⟨σ227, h1, h⟩ := bnd1_e h
      refine V.sN (as := [.int (a6 + (((mI σ 35 (a2.toNatClampNeg)) * x10) / a8)), .int (a7 + (((mI σ 36 (a2.toNatClampNeg)) * x10) / a8)), rf Z g3, .int a4, .int a5]) (st := []) (c_Da_mark Z hk3 hy3 h1) k_Da_mark lk_Da_150 (by decide) rfl rfl (Nat.le_of_ble_eq_true rfl) d_Da_spread_227 ?_
      obtain ⟨v230, e_v230, h⟩ := letv_e h
      refine V.iinc (v := v230) (lv' := [(10, .int v230), (0, rf Z 33), (2, .int a2), (3, rf Z g3), (4, .int a4), (5, .int a5), (6, .int a6), (7, .int a7), (8, .int a8), (9, .int a9)]) d_Da_spread_230 9 rfl (by rw [e_v230]; rfl) (by decide) rfl ?_
      refine V.goto (tgt := 185) d_Da_spread_233 (by decide) ?_
      exact V.pick [1, 2, 3, 4, 5, 6, 7, 8, 9, 0] rfl (ih _ _ _ h hg)
def B_Da_spread_l55 (N : Nat) (a1 : Int32) (g3 n3 : Nat) (a4 : Int32) (a5 : Int32) (a6 : Int32) (a7 : Int32) (a8 : Int32) (rec : Int32 → Mem → Option (Mem)) (x9 : Int32) (σ : Mem) : Option (Mem) :=
  grd (inb a1 17) <|
  if (mI σ 22 (a1.toNatClampNeg)) ≤ x9 then
    (some σ)
  else
    (bnd1 (f_Sh_eastOf a8) fun r75 =>
    bnd1 (f_Sh_northOf a8) fun r86 =>
    bnd1 (f_Da_mark σ (a6 + (x9 * r75)) (a7 + (x9 * r86)) g3 n3 a4 a5) fun σ96 =>
    letv (x9 + 1) fun v99 =>
    rec v99 σ96)
def L_Da_spread_l55 (N : Nat) (a1 : Int32) (g3 n3 : Nat) (a4 : Int32) (a5 : Int32) (a6 : Int32) (a7 : Int32) (a8 : Int32) : Nat → Int32 → Mem → Option (Mem)
  | 0, _, _ => none
  | k + 1, x9, σ => B_Da_spread_l55 N a1 g3 n3 a4 a5 a6 a7 a8 (L_Da_spread_l55 N a1 g3 n3 a4 a5 a6 a7 a8 k) x9 σ
set_option maxHeartbeats 4000000 in
set_option maxRecDepth 20000 in
theorem cL_Da_spread_l55 (Z : ZX) {Y : YX} {post : Option Value → Mem → Prop} {N : Nat} {a1 : Int32} {g3 n3 : Nat} {a4 : Int32} {a5 : Int32} {a6 : Int32} {a7 : Int32} {a8 : Int32} (hk3 : g3 < nC) (hy3 : lay1 g3 = .inl (.int, n3)) {Good : Mem → Prop} (hR : ∀ (σr : Mem), Good σr → post none σr) : ∀ (k : Nat) (x9 : Int32) (σ : Mem) (res : Mem), L_Da_spread_l55 N a1 g3 n3 a4 a5 a6 a7 a8 k x9 σ = some res → Good res → V (mkB Z) Y m_Da_spread 2 (QP (mkB Z) Y nC 0 0 post) 0 0 nC σ 55 [(0, rf Z 33), (1, .int a1), (3, rf Z g3), (4, .int a4), (5, .int a5), (6, .int a6), (7, .int a7), (8, .int a8), (9, .int x9)] [] := by
  intro k
  induction k with
  | zero => intro x9 σ res h; cases h
  | succ k ih =>
    intro x9 σ res h hg
    replace h : B_Da_spread_l55 N a1 g3 n3 a4 a5 a6 a7 a8 (L_Da_spread_l55 N a1 g3 n3 a4 a5 a6 a7 a8 k) x9 σ = some res := h
    unfold B_Da_spread_l55 at h
    refine V.iload d_Da_spread_55 8 rfl ?_
    refine V.aload_n d_Da_spread_57 rfl 0 rfl ?_
    refine V.getR (r := 19) ok_Da fl_Da_41 (by decide) (by decide) ly_33 rfl d_Da_spread_58 ?_
    refine V.getR (r := 22) ok_To fl_Da_141 (by decide) (by decide) ly_19 rfl d_Da_spread_61 ?_
    refine V.iload_n d_Da_spread_64 rfl 1 rfl ?_
    obtain ⟨gq, h⟩ := grd_e h
    refine V.ra (by decide) ly_22 (inb_e gq) rfl d_Da_spread_65 ?_
    refine V.icmp_ge (tgt := 105) d_Da_spread_66 (by decide) (fun hc66 => ?_) (fun hc66 => ?_)
    · replace h := ite_t hc66 h
      cases h
      exact V.vret rfl d_Da_spread_105 (hR _ hg)
    · replace h := ite_f hc66 h
      refine V.iload d_Da_spread_69 5 rfl ?_
      refine V.iload d_Da_spread_71 8 rfl ?_
      refine V.iload d_Da_spread_73 7 rfl ?_
      obtain ⟨r75, h1, h⟩ := bnd1_e h
      refine V.tI (as := [.int a8]) (st := [.int x9, .int a6]) (c_Sh_eastOf Z h1) k_Sh_eastOf ln_Da_144 (by decide) rfl rfl (Nat.le_of_ble_eq_true rfl) d_Da_spread_75 ?_
      refine V.imul d_Da_spread_78 ?_
      refine V.iadd d_Da_spread_79 ?_
      refine V.iload d_Da_spread_80 6 rfl ?_
      refine V.iload d_Da_spread_82 8 rfl ?_
      refine V.iload d_Da_spread_84 7 rfl ?_
      obtain ⟨r86, h1, h⟩ := bnd1_e h
      refine V.tI (as := [.int a8]) (st := [.int x9, .int a7, .int (a6 + (x9 * r75))]) (c_Sh_northOf Z h1) k_Sh_northOf ln_Da_147 (by decide) rfl rfl (Nat.le_of_ble_eq_true rfl) d_Da_spread_86 ?_
      refine V.imul d_Da_spread_89 ?_
      refine V.iadd d_Da_spread_90 ?_
      refine V.aload_n d_Da_spread_91 rfl 2 rfl ?_
      refine V.iload d_Da_spread_92 3 rfl ?_
      refine V.iload d_Da_spread_94 4 rfl ?_
      obtain ⟨σ96, h1, h⟩ := bnd1_e h
      refine V.sN (as := [.int (a6 + (x9 * r75)), .int (a7 + (x9 * r86)), rf Z g3, .int a4, .int a5]) (st := []) (c_Da_mark Z hk3 hy3 h1) k_Da_mark lk_Da_150 (by decide) rfl rfl (Nat.le_of_ble_eq_true rfl) d_Da_spread_96 ?_
      obtain ⟨v99, e_v99, h⟩ := letv_e h
      refine V.iinc (v := v99) (lv' := [(9, .int v99), (0, rf Z 33), (1, .int a1), (3, rf Z g3), (4, .int a4), (5, .int a5), (6, .int a6), (7, .int a7), (8, .int a8)]) d_Da_spread_99 8 rfl (by rw [e_v99]; rfl) (by decide) rfl ?_
      refine V.goto (tgt := 55) d_Da_spread_102 (by decide) ?_
      exact V.pick [1, 2, 3, 4, 5, 6, 7, 8, 0] rfl (ih _ _ _ h hg)
def f_Da_spread (N : Nat) (σ : Mem) (a1 : Int32) (a2 : Int32) (g3 : Nat) (n3 : Nat) (a4 : Int32) (a5 : Int32) : Option (Mem) :=
  grd (inb a1 17) <|
  letv ((mI σ 21 (a1.toNatClampNeg)) - (mI σ 21 (a1.toNatClampNeg)) / 12 * 12) fun v12 =>
  grd (inb a1 17) <|
  letv ((mI σ 21 (a1.toNatClampNeg)) / 12) fun v26 =>
  grd (inb a1 17) <|
  if (mI σ 20 (a1.toNatClampNeg)) = 2 then
    (grd (inb a1 17) <|
    letv (mI σ 23 (a1.toNatClampNeg)) fun v50 =>
    L_Da_spread_l55 N a1 g3 n3 a4 a5 v12 v26 v50 N 0 σ)
  else
    (grd (inb a1 17) <|
    bnd1 ((
      if (mI σ 20 (a1.toNatClampNeg)) = 1 then
        (bnd1 (f_Da_mark σ v12 v26 g3 n3 a4 a5) fun σ128 =>
        some σ128)
      else
        (some σ)) : Option (Mem)) fun σ116_ =>
    grd (inb a2 24) <|
    bnd1 (f_JM_abs_0f7a4 (mI σ116_ 35 (a2.toNatClampNeg))) fun r137 =>
    grd (inb a2 24) <|
    bnd1 (f_JM_abs_0f7a4 (mI σ116_ 36 (a2.toNatClampNeg))) fun r146 =>
    bnd1 (f_JM_max_7cf53 r137 r146) fun r149 =>
    if r149 = 0 then
      (some σ116_)
    else
      (grd (inb a1 17) <|
      bnd1 (f_JM_min_7cf53 15 ((r149 * (mI σ116_ 22 (a1.toNatClampNeg))) / 12)) fun r177 =>
      L_Da_spread_l185 N a2 g3 n3 a4 a5 v12 v26 r149 r177 N 1 σ116_))
set_option maxHeartbeats 4000000 in
set_option maxRecDepth 20000 in
theorem c_Da_spread (Z : ZX) {N : Nat} {σ : Mem} {a1 : Int32} {a2 : Int32} {g3 : Nat} {n3 : Nat} {a4 : Int32} {a5 : Int32} {σ' : Mem} (hk3 : g3 < nC) (hy3 : lay1 g3 = .inl (.int, n3)) (h : f_Da_spread N σ a1 a2 g3 n3 a4 a5 = some σ') : CN Z 2 m_Da_spread [rf Z 33, .int a1, .int a2, rf Z g3, .int a4, .int a5] σ σ' := by
  refine Ct.of (by decide +kernel) (Nat.le_of_ble_eq_true rfl) (fun Y => ?_)
  show V (mkB Z) Y m_Da_spread 2 (QP (mkB Z) Y nC 0 0 (fun v t => v = none ∧ t = σ')) 0 0 nC σ 0 [(0, rf Z 33), (1, .int a1), (2, .int a2), (3, rf Z g3), (4, .int a4), (5, .int a5)] []
  unfold f_Da_spread at h
  refine V.aload_n d_Da_spread_0 rfl 0 rfl ?_
  refine V.getR (r := 19) ok_Da fl_Da_41 (by decide) (by decide) ly_33 rfl d_Da_spread_1 ?_
  refine V.getR (r := 21) ok_To fl_Da_129 (by decide) (by decide) ly_19 rfl d_Da_spread_4 ?_
  refine V.iload_n d_Da_spread_7 rfl 1 rfl ?_
  obtain ⟨gq, h⟩ := grd_e h
  refine V.ra (by decide) ly_21 (inb_e gq) rfl d_Da_spread_8 ?_
  refine V.bipush (v := 12) d_Da_spread_9 (by decide) ?_
  refine V.irem d_Da_spread_11 (by decide) ?_
  obtain ⟨v12, e_v12, h⟩ := letv_e h
  refine V.topI e_v12 ?_
  refine V.istore (lv' := [(6, .int v12), (0, rf Z 33), (1, .int a1), (2, .int a2), (3, rf Z g3), (4, .int a4), (5, .int a5)]) d_Da_spread_12 (by decide) rfl ?_
  refine V.aload_n d_Da_spread_14 rfl 1 rfl ?_
  refine V.getR (r := 19) ok_Da fl_Da_41 (by decide) (by decide) ly_33 rfl d_Da_spread_15 ?_
  refine V.getR (r := 21) ok_To fl_Da_129 (by decide) (by decide) ly_19 rfl d_Da_spread_18 ?_
  refine V.iload_n d_Da_spread_21 rfl 2 rfl ?_
  obtain ⟨gq, h⟩ := grd_e h
  refine V.ra (by decide) ly_21 (inb_e gq) rfl d_Da_spread_22 ?_
  refine V.bipush (v := 12) d_Da_spread_23 (by decide) ?_
  refine V.idiv d_Da_spread_25 (by decide) ?_
  obtain ⟨v26, e_v26, h⟩ := letv_e h
  refine V.topI e_v26 ?_
  refine V.istore (lv' := [(7, .int v26), (6, .int v12), (0, rf Z 33), (1, .int a1), (2, .int a2), (3, rf Z g3), (4, .int a4), (5, .int a5)]) d_Da_spread_26 (by decide) rfl ?_
  refine V.aload_n d_Da_spread_28 rfl 2 rfl ?_
  refine V.getR (r := 19) ok_Da fl_Da_41 (by decide) (by decide) ly_33 rfl d_Da_spread_29 ?_
  refine V.getR (r := 20) ok_To fl_Da_135 (by decide) (by decide) ly_19 rfl d_Da_spread_32 ?_
  refine V.iload_n d_Da_spread_35 rfl 3 rfl ?_
  obtain ⟨gq, h⟩ := grd_e h
  refine V.ra (by decide) ly_20 (inb_e gq) rfl d_Da_spread_36 ?_
  refine V.iconst (v := 2) d_Da_spread_37 (by decide) ?_
  refine V.icmp_ne (tgt := 106) d_Da_spread_38 (by decide) (fun hc38 => ?_) (fun hc38 => ?_)
  · replace h := ite_f hc38 h
    refine V.aload_n d_Da_spread_106 rfl 2 rfl ?_
    refine V.getR (r := 19) ok_Da fl_Da_41 (by decide) (by decide) ly_33 rfl d_Da_spread_107 ?_
    refine V.getR (r := 20) ok_To fl_Da_135 (by decide) (by decide) ly_19 rfl d_Da_spread_110 ?_
    refine V.iload_n d_Da_spread_113 rfl 3 rfl ?_
    obtain ⟨gq, h⟩ := grd_e h
    refine V.ra (by decide) ly_20 (inb_e gq) rfl d_Da_spread_114 ?_
    refine V.iconst (v := 1) d_Da_spread_115 (by decide) ?_
    obtain ⟨s116, h1, h⟩ := bnd1_e h
    have J116_131 : ∀ (σ116_ : Mem), s116 = σ116_ → V (mkB Z) Y m_Da_spread 2 (QP (mkB Z) Y nC 0 0 (fun v t => v = none ∧ t = σ')) 0 0 nC σ116_ 131 [(0, rf Z 33), (1, .int a1), (2, .int a2), (3, rf Z g3), (4, .int a4), (5, .int a5), (6, .int v12), (7, .int v26)] [] := by
      intro σ116_ he
      rw [he] at h
      refine V.aload_n d_Da_spread_131 rfl 0 rfl ?_
      refine V.getR (r := 35) ok_Da fl_Da_15 (by decide) (by decide) ly_33 rfl d_Da_spread_132 ?_
      refine V.iload_n d_Da_spread_135 rfl 2 rfl ?_
      obtain ⟨gq, h⟩ := grd_e h
      refine V.ra (by decide) ly_35 (inb_e gq) rfl d_Da_spread_136 ?_
      obtain ⟨r137, h1, h⟩ := bnd1_e h
      refine V.sI (as := [.int (mI σ116_ 35 (a2.toNatClampNeg))]) (st := []) (c_JM_abs_0f7a4 Z h1) k_JM_abs_0f7a4 lk_Da_153 (by decide) rfl rfl (Nat.le_of_ble_eq_true rfl) d_Da_spread_137 ?_
      refine V.aload_n d_Da_spread_140 rfl 0 rfl ?_
      refine V.getR (r := 36) ok_Da fl_Da_19 (by decide) (by decide) ly_33 rfl d_Da_spread_141 ?_
      refine V.iload_n d_Da_spread_144 rfl 2 rfl ?_
      obtain ⟨gq, h⟩ := grd_e h
      refine V.ra (by decide) ly_36 (inb_e gq) rfl d_Da_spread_145 ?_
      obtain ⟨r146, h1, h⟩ := bnd1_e h
      refine V.sI (as := [.int (mI σ116_ 36 (a2.toNatClampNeg))]) (st := [.int r137]) (c_JM_abs_0f7a4 Z h1) k_JM_abs_0f7a4 lk_Da_153 (by decide) rfl rfl (Nat.le_of_ble_eq_true rfl) d_Da_spread_146 ?_
      obtain ⟨r149, h1, h⟩ := bnd1_e h
      refine V.sI (as := [.int r137, .int r146]) (st := []) (c_JM_max_7cf53 Z h1) k_JM_max_7cf53 lk_Da_158 (by decide) rfl rfl (Nat.le_of_ble_eq_true rfl) d_Da_spread_149 ?_
      refine V.istore (lv' := [(8, .int r149), (0, rf Z 33), (1, .int a1), (2, .int a2), (3, rf Z g3), (4, .int a4), (5, .int a5), (6, .int v12), (7, .int v26)]) d_Da_spread_152 (by decide) rfl ?_
      refine V.iload d_Da_spread_154 0 rfl ?_
      refine V.if_ne (tgt := 160) d_Da_spread_156 (by decide) (fun hc156 => ?_) (fun hc156 => ?_)
      · replace h := ite_f hc156 h
        refine V.bipush (v := 15) d_Da_spread_160 (by decide) ?_
        refine V.iload d_Da_spread_162 0 rfl ?_
        refine V.aload_n d_Da_spread_164 rfl 1 rfl ?_
        refine V.getR (r := 19) ok_Da fl_Da_41 (by decide) (by decide) ly_33 rfl d_Da_spread_165 ?_
        refine V.getR (r := 22) ok_To fl_Da_141 (by decide) (by decide) ly_19 rfl d_Da_spread_168 ?_
        refine V.iload_n d_Da_spread_171 rfl 2 rfl ?_
        obtain ⟨gq, h⟩ := grd_e h
        refine V.ra (by decide) ly_22 (inb_e gq) rfl d_Da_spread_172 ?_
        refine V.imul d_Da_spread_173 ?_
        refine V.bipush (v := 12) d_Da_spread_174 (by decide) ?_
        refine V.idiv d_Da_spread_176 (by decide) ?_
        obtain ⟨r177, h1, h⟩ := bnd1_e h
        refine V.sI (as := [.int 15, .int ((r149 * (mI σ116_ 22 (a1.toNatClampNeg))) / 12)]) (st := []) (c_JM_min_7cf53 Z h1) k_JM_min_7cf53 lk_Da_161 (by decide) rfl rfl (Nat.le_of_ble_eq_true rfl) d_Da_spread_177 ?_
        refine V.istore (lv' := [(9, .int r177), (8, .int r149), (0, rf Z 33), (1, .int a1), (2, .int a2), (3, rf Z g3), (4, .int a4), (5, .int a5), (6, .int v12), (7, .int v26)]) d_Da_spread_180 (by decide) rfl ?_
        refine V.iconst (v := 1) d_Da_spread_182 (by decide) ?_
        refine V.istore (lv' := [(10, .int 1), (9, .int r177), (8, .int r149), (0, rf Z 33), (1, .int a1), (2, .int a2), (3, rf Z g3), (4, .int a4), (5, .int a5), (6, .int v12), (7, .int v26)]) d_Da_spread_183 (by decide) rfl ?_
        refine V.pick [3, 5, 6, 7, 8, 9, 10, 2, 1, 0] rfl (cL_Da_spread_l185 Z hk3 hy3 (Good := fun z => z = _) (fun r185m he => ?_) N _ _ _ h rfl)
        · cases he
          exact ⟨rfl, rfl⟩
      · replace h := ite_t hc156 h
        cases h
        exact V.vret rfl d_Da_spread_159 ⟨rfl, rfl⟩
    replace h := h1
    refine V.icmp_ne (tgt := 131) d_Da_spread_116 (by decide) (fun hc116 => ?_) (fun hc116 => ?_)
    · replace h := ite_f hc116 h
      exact V.pick [2, 3, 4, 5, 6, 7, 1, 0] rfl (J116_131 _ (Option.some.inj h).symm)
    · replace h := ite_t hc116 h
      refine V.iload d_Da_spread_119 1 rfl ?_
      refine V.iload d_Da_spread_121 0 rfl ?_
      refine V.aload_n d_Da_spread_123 rfl 5 rfl ?_
      refine V.iload d_Da_spread_124 6 rfl ?_
      refine V.iload d_Da_spread_126 7 rfl ?_
      obtain ⟨σ128, h1, h⟩ := bnd1_e h
      refine V.sN (as := [.int v12, .int v26, rf Z g3, .int a4, .int a5]) (st := []) (c_Da_mark Z hk3 hy3 h1) k_Da_mark lk_Da_150 (by decide) rfl rfl (Nat.le_of_ble_eq_true rfl) d_Da_spread_128 ?_
      exact V.pick [2, 3, 4, 5, 6, 7, 1, 0] rfl (J116_131 _ (Option.some.inj h).symm)
  · replace h := ite_t hc38 h
    refine V.aload_n d_Da_spread_41 rfl 2 rfl ?_
    refine V.getR (r := 19) ok_Da fl_Da_41 (by decide) (by decide) ly_33 rfl d_Da_spread_42 ?_
    refine V.getR (r := 23) ok_To fl_Da_138 (by decide) (by decide) ly_19 rfl d_Da_spread_45 ?_
    refine V.iload_n d_Da_spread_48 rfl 3 rfl ?_
    obtain ⟨gq, h⟩ := grd_e h
    refine V.ra (by decide) ly_23 (inb_e gq) rfl d_Da_spread_49 ?_
    obtain ⟨v50, e_v50, h⟩ := letv_e h
    refine V.topI e_v50 ?_
    refine V.istore (lv' := [(8, .int v50), (7, .int v26), (6, .int v12), (0, rf Z 33), (1, .int a1), (2, .int a2), (3, rf Z g3), (4, .int a4), (5, .int a5)]) d_Da_spread_50 (by decide) rfl ?_
    refine V.iconst (v := 0) d_Da_spread_52 (by decide) ?_
    refine V.istore (lv' := [(9, .int 0), (8, .int v50), (7, .int v26), (6, .int v12), (0, rf Z 33), (1, .int a1), (2, .int a2), (3, rf Z g3), (4, .int a4), (5, .int a5)]) d_Da_spread_53 (by decide) rfl ?_
    refine V.pick [4, 5, 7, 8, 9, 3, 2, 1, 0] rfl (cL_Da_spread_l55 Z hk3 hy3 (Good := fun z => z = _) (fun r55m he => ?_) N _ _ _ h rfl)
    · cases he
      exact ⟨rfl, rfl⟩
abbrev m_Da_knowShade : MI := (⟨"ShadeTown$Day", "knowShade", "()V"⟩, prog_3_method_24_code, 4, (Option.none : Option Jvm.ClassFile.FieldType))
theorem d_Da_knowShade_0 : decode prog_3_method_24_code 0 = .ok (.aload_n 0, 1) := by decide +kernel
theorem fl_Da_29 : FL "ShadeTown$Day" 29 T_Da 7 := atG 279 (by decide +kernel) rfl
theorem d_Da_knowShade_1 : decode prog_3_method_24_code 1 = .ok (.getfield 29, 3) := by decide +kernel
theorem d_Da_knowShade_4 : decode prog_3_method_24_code 4 = .ok (.iconst 0, 1) := by decide +kernel
theorem d_Da_knowShade_5 : decode prog_3_method_24_code 5 = .ok (.invokestatic 97, 3) := by decide +kernel
theorem lk_Da_97 : Cond.methodLink "ShadeTown$Day" 97 ⟨"java/util/Arrays", "fill", "([II)V"⟩ ∈ tblG := atG 791 (by decide +kernel) rfl
theorem d_Da_knowShade_8 : decode prog_3_method_24_code 8 = .ok (.iconst 0, 1) := by decide +kernel
theorem d_Da_knowShade_9 : decode prog_3_method_24_code 9 = .ok (.istore_n 1, 1) := by decide +kernel
theorem d_Da_knowShade_10 : decode prog_3_method_24_code 10 = .ok (.iload_n 1, 1) := by decide +kernel
theorem d_Da_knowShade_11 : decode prog_3_method_24_code 11 = .ok (.sipush 144, 3) := by decide +kernel
theorem d_Da_knowShade_17 : decode prog_3_method_24_code 17 = .ok (.aload_n 0, 1) := by decide +kernel
theorem fl_Da_32 : FL "ShadeTown$Day" 32 T_Da 8 := atG 280 (by decide +kernel) rfl
theorem d_Da_knowShade_18 : decode prog_3_method_24_code 18 = .ok (.getfield 32, 3) := by decide +kernel
theorem d_Da_knowShade_21 : decode prog_3_method_24_code 21 = .ok (.iload_n 1, 1) := by decide +kernel
theorem d_Da_knowShade_22 : decode prog_3_method_24_code 22 = .ok (.iconst 0, 1) := by decide +kernel
theorem d_Da_knowShade_23 : decode prog_3_method_24_code 23 = .ok (.bastore, 1) := by decide +kernel
theorem d_Da_knowShade_24 : decode prog_3_method_24_code 24 = .ok (.iinc 1 1, 3) := by decide +kernel
theorem d_Da_knowShade_27 : decode prog_3_method_24_code 27 = .ok (.goto (-17), 3) := by decide +kernel
theorem d_Da_knowShade_14 : decode prog_3_method_24_code 14 = .ok (.if_icmp .ge 16, 3) := by decide +kernel
theorem d_Da_knowShade_30 : decode prog_3_method_24_code 30 = .ok (.iconst 0, 1) := by decide +kernel
theorem d_Da_knowShade_31 : decode prog_3_method_24_code 31 = .ok (.istore_n 1, 1) := by decide +kernel
theorem d_Da_knowShade_32 : decode prog_3_method_24_code 32 = .ok (.iload_n 1, 1) := by decide +kernel
theorem d_Da_knowShade_33 : decode prog_3_method_24_code 33 = .ok (.aload_n 0, 1) := by decide +kernel
theorem d_Da_knowShade_34 : decode prog_3_method_24_code 34 = .ok (.getfield 41, 3) := by decide +kernel
theorem fl_Da_122 : FL "ShadeTown$Day" 122 T_To 6 := atG 235 (by decide +kernel) rfl
theorem d_Da_knowShade_37 : decode prog_3_method_24_code 37 = .ok (.getfield 122, 3) := by decide +kernel
theorem d_Da_knowShade_43 : decode prog_3_method_24_code 43 = .ok (.aload_n 0, 1) := by decide +kernel
theorem d_Da_knowShade_44 : decode prog_3_method_24_code 44 = .ok (.getfield 41, 3) := by decide +kernel
theorem d_Da_knowShade_47 : decode prog_3_method_24_code 47 = .ok (.iload_n 1, 1) := by decide +kernel
theorem d_Da_knowShade_48 : decode prog_3_method_24_code 48 = .ok (.iconst 0, 1) := by decide +kernel
theorem d_Da_knowShade_49 : decode prog_3_method_24_code 49 = .ok (.invokevirtual 125, 3) := by decide +kernel
theorem lk_Da_125 : Cond.methodLink "ShadeTown$Day" 125 ⟨"ShadeTown$Town", "isStandingOf", "(II)Z"⟩ ∈ tblG := atG 792 (by decide +kernel) rfl
theorem d_Da_knowShade_55 : decode prog_3_method_24_code 55 = .ok (.aload_n 0, 1) := by decide +kernel
theorem d_Da_knowShade_56 : decode prog_3_method_24_code 56 = .ok (.getfield 32, 3) := by decide +kernel
theorem d_Da_knowShade_59 : decode prog_3_method_24_code 59 = .ok (.aload_n 0, 1) := by decide +kernel
theorem d_Da_knowShade_60 : decode prog_3_method_24_code 60 = .ok (.getfield 41, 3) := by decide +kernel
theorem d_Da_knowShade_63 : decode prog_3_method_24_code 63 = .ok (.getfield 129, 3) := by decide +kernel
theorem d_Da_knowShade_66 : decode prog_3_method_24_code 66 = .ok (.iload_n 1, 1) := by decide +kernel
theorem d_Da_knowShade_67 : decode prog_3_method_24_code 67 = .ok (.iaload, 1) := by decide +kernel
theorem d_Da_knowShade_68 : decode prog_3_method_24_code 68 = .ok (.iconst 1, 1) := by decide +kernel
theorem d_Da_knowShade_69 : decode prog_3_method_24_code 69 = .ok (.bastore, 1) := by decide +kernel
theorem d_Da_knowShade_52 : decode prog_3_method_24_code 52 = .ok (.ifCond .eq 18, 3) := by decide +kernel
theorem d_Da_knowShade_70 : decode prog_3_method_24_code 70 = .ok (.iinc 1 1, 3) := by decide +kernel
theorem d_Da_knowShade_73 : decode prog_3_method_24_code 73 = .ok (.goto (-41), 3) := by decide +kernel
theorem d_Da_knowShade_40 : decode prog_3_method_24_code 40 = .ok (.if_icmp .ge 36, 3) := by decide +kernel
theorem d_Da_knowShade_76 : decode prog_3_method_24_code 76 = .ok (.iconst 0, 1) := by decide +kernel
theorem d_Da_knowShade_77 : decode prog_3_method_24_code 77 = .ok (.istore_n 1, 1) := by decide +kernel
theorem d_Da_knowShade_78 : decode prog_3_method_24_code 78 = .ok (.iload_n 1, 1) := by decide +kernel
theorem d_Da_knowShade_79 : decode prog_3_method_24_code 79 = .ok (.bipush 24, 2) := by decide +kernel
theorem d_Da_knowShade_81 : decode prog_3_method_24_code 81 = .ok (.aload_n 0, 1) := by decide +kernel
theorem d_Da_knowShade_82 : decode prog_3_method_24_code 82 = .ok (.getfield 41, 3) := by decide +kernel
theorem d_Da_knowShade_85 : decode prog_3_method_24_code 85 = .ok (.getfield 122, 3) := by decide +kernel
theorem d_Da_knowShade_88 : decode prog_3_method_24_code 88 = .ok (.imul, 1) := by decide +kernel
theorem d_Da_knowShade_146 : decode prog_3_method_24_code 146 = .ok (.aload_n 0, 1) := by decide +kernel
theorem d_Da_knowShade_147 : decode prog_3_method_24_code 147 = .ok (.iconst 1, 1) := by decide +kernel
theorem d_Da_knowShade_148 : decode prog_3_method_24_code 148 = .ok (.putfield 35, 3) := by decide +kernel
theorem d_Da_knowShade_151 : decode prog_3_method_24_code 151 = .ok (.return_, 1) := by decide +kernel
theorem d_Da_knowShade_92 : decode prog_3_method_24_code 92 = .ok (.iload_n 1, 1) := by decide +kernel
theorem d_Da_knowShade_93 : decode prog_3_method_24_code 93 = .ok (.bipush 24, 2) := by decide +kernel
theorem d_Da_knowShade_95 : decode prog_3_method_24_code 95 = .ok (.irem, 1) := by decide +kernel
theorem d_Da_knowShade_96 : decode prog_3_method_24_code 96 = .ok (.istore_n 2, 1) := by decide +kernel
theorem d_Da_knowShade_97 : decode prog_3_method_24_code 97 = .ok (.iload_n 1, 1) := by decide +kernel
theorem d_Da_knowShade_98 : decode prog_3_method_24_code 98 = .ok (.bipush 24, 2) := by decide +kernel
theorem d_Da_knowShade_100 : decode prog_3_method_24_code 100 = .ok (.idiv, 1) := by decide +kernel
theorem d_Da_knowShade_101 : decode prog_3_method_24_code 101 = .ok (.istore_n 3, 1) := by decide +kernel
theorem d_Da_knowShade_102 : decode prog_3_method_24_code 102 = .ok (.aload_n 0, 1) := by decide +kernel
theorem d_Da_knowShade_103 : decode prog_3_method_24_code 103 = .ok (.getfield 9, 3) := by decide +kernel
theorem d_Da_knowShade_106 : decode prog_3_method_24_code 106 = .ok (.iload_n 2, 1) := by decide +kernel
theorem d_Da_knowShade_107 : decode prog_3_method_24_code 107 = .ok (.baload, 1) := by decide +kernel
theorem d_Da_knowShade_111 : decode prog_3_method_24_code 111 = .ok (.aload_n 0, 1) := by decide +kernel
theorem d_Da_knowShade_112 : decode prog_3_method_24_code 112 = .ok (.getfield 41, 3) := by decide +kernel
theorem d_Da_knowShade_115 : decode prog_3_method_24_code 115 = .ok (.iload_n 3, 1) := by decide +kernel
theorem d_Da_knowShade_116 : decode prog_3_method_24_code 116 = .ok (.invokevirtual 132, 3) := by decide +kernel
theorem lk_Da_132 : Cond.methodLink "ShadeTown$Day" 132 ⟨"ShadeTown$Town", "isStanding", "(I)Z"⟩ ∈ tblG := atG 793 (by decide +kernel) rfl
theorem d_Da_knowShade_122 : decode prog_3_method_24_code 122 = .ok (.aload_n 0, 1) := by decide +kernel
theorem d_Da_knowShade_123 : decode prog_3_method_24_code 123 = .ok (.iload_n 3, 1) := by decide +kernel
theorem d_Da_knowShade_124 : decode prog_3_method_24_code 124 = .ok (.iload_n 2, 1) := by decide +kernel
theorem d_Da_knowShade_125 : decode prog_3_method_24_code 125 = .ok (.aload_n 0, 1) := by decide +kernel
theorem d_Da_knowShade_126 : decode prog_3_method_24_code 126 = .ok (.getfield 29, 3) := by decide +kernel
theorem d_Da_knowShade_129 : decode prog_3_method_24_code 129 = .ok (.iload_n 2, 1) := by decide +kernel
theorem d_Da_knowShade_130 : decode prog_3_method_24_code 130 = .ok (.sipush 144, 3) := by decide +kernel
theorem d_Da_knowShade_133 : decode prog_3_method_24_code 133 = .ok (.imul, 1) := by decide +kernel
theorem d_Da_knowShade_134 : decode prog_3_method_24_code 134 = .ok (.iconst 1, 1) := by decide +kernel
theorem d_Da_knowShade_135 : decode prog_3_method_24_code 135 = .ok (.iload_n 3, 1) := by decide +kernel
theorem d_Da_knowShade_136 : decode prog_3_method_24_code 136 = .ok (.ishl, 1) := by decide +kernel
theorem d_Da_knowShade_137 : decode prog_3_method_24_code 137 = .ok (.invokevirtual 106, 3) := by decide +kernel
theorem k_Da_spread : MOk m_Da_spread 5 ∧ IOk m_Da_spread := ⟨⟨atG 797 (by decide +kernel) rfl, atG 116 (by decide +kernel) rfl, ⟨by decide, by decide⟩, by decide +kernel, by decide⟩, atG 796 (by decide +kernel) rfl, atG 20 (by decide +kernel) rfl⟩
theorem lk_Da_106 : Cond.methodLink "ShadeTown$Day" 106 ⟨"ShadeTown$Day", "spread", "(II[III)V"⟩ ∈ tblG := atG 794 (by decide +kernel) rfl
theorem d_Da_knowShade_119 : decode prog_3_method_24_code 119 = .ok (.ifCond .eq 21, 3) := by decide +kernel
theorem d_Da_knowShade_108 : decode prog_3_method_24_code 108 = .ok (.ifCond .eq 32, 3) := by decide +kernel
theorem d_Da_knowShade_140 : decode prog_3_method_24_code 140 = .ok (.iinc 1 1, 3) := by decide +kernel
theorem d_Da_knowShade_143 : decode prog_3_method_24_code 143 = .ok (.goto (-65), 3) := by decide +kernel
theorem d_Da_knowShade_89 : decode prog_3_method_24_code 89 = .ok (.if_icmp .ge 57, 3) := by decide +kernel
def B_Da_knowShade_l10 (N : Nat) (rec : Int32 → Mem → Option (Mem)) (x1 : Int32) (σ : Mem) : Option (Mem) :=
  if 144 ≤ x1 then
    (some σ)
  else
    (grd (inb x1 144) <|
    letv (sI σ 39 (x1.toNatClampNeg) (0 &&& 1)) fun σ23 =>
    letv (x1 + 1) fun v24 =>
    rec v24 σ23)
def L_Da_knowShade_l10 (N : Nat) : Nat → Int32 → Mem → Option (Mem)
  | 0, _, _ => none
  | k + 1, x1, σ => B_Da_knowShade_l10 N (L_Da_knowShade_l10 N k) x1 σ
set_option maxHeartbeats 4000000 in
set_option maxRecDepth 20000 in
theorem cL_Da_knowShade_l10 (Z : ZX) {Y : YX} {Q : State → Prop} {N : Nat} {Good : Mem → Prop} (hE : ∀ (σe : Mem), Good σe → V (mkB Z) Y m_Da_knowShade 3 Q 0 0 nC σe 30 [(0, rf Z 33)] []) : ∀ (k : Nat) (x1 : Int32) (σ : Mem) (res : Mem), L_Da_knowShade_l10 N k x1 σ = some res → Good res → V (mkB Z) Y m_Da_knowShade 3 Q 0 0 nC σ 10 [(0, rf Z 33), (1, .int x1)] [] := by
  intro k
  induction k with
  | zero => intro x1 σ res h; cases h
  | succ k ih =>
    intro x1 σ res h hg
    replace h : B_Da_knowShade_l10 N (L_Da_knowShade_l10 N k) x1 σ = some res := h
    unfold B_Da_knowShade_l10 at h
    refine V.iload_n d_Da_knowShade_10 rfl 1 rfl ?_
    refine V.sipush (v := 144) d_Da_knowShade_11 (by decide) ?_
    refine V.icmp_ge (tgt := 30) d_Da_knowShade_14 (by decide) (fun hc14 => ?_) (fun hc14 => ?_)
    · replace h := ite_t hc14 h
      cases h
      exact V.pick [0] rfl (hE _ hg)
    · replace h := ite_f hc14 h
      refine V.aload_n d_Da_knowShade_17 rfl 0 rfl ?_
      refine V.getR (r := 39) ok_Da fl_Da_32 (by decide) (by decide) ly_33 rfl d_Da_knowShade_18 ?_
      refine V.iload_n d_Da_knowShade_21 rfl 1 rfl ?_
      refine V.iconst (v := 0) d_Da_knowShade_22 (by decide) ?_
      obtain ⟨gq, h⟩ := grd_e h
      obtain ⟨σ23, e_σ23, h⟩ := letv_e h
      refine V.wz (by decide) ly_39 (inb_e gq) rfl d_Da_knowShade_23 e_σ23 ?_
      obtain ⟨v24, e_v24, h⟩ := letv_e h
      refine V.iinc (v := v24) (lv' := [(1, .int v24), (0, rf Z 33)]) d_Da_knowShade_24 1 rfl (by rw [e_v24]; rfl) (by decide) rfl ?_
      refine V.goto (tgt := 10) d_Da_knowShade_27 (by decide) ?_
      exact V.pick [1, 0] rfl (ih _ _ _ h hg)
def B_Da_knowShade_l32 (N : Nat) (rec : Int32 → Mem → Option (Mem)) (x1 : Int32) (σ : Mem) : Option (Mem) :=
  if (mI σ 19 6) ≤ x1 then
    (some σ)
  else
    (bnd1 (f_To_isStandingOf σ x1 0) fun r49 =>
    bnd1 ((
      if r49 = 0 then
        (some σ)
      else
        (grd (inb x1 17) <|
        grd (inb (mI σ 21 (x1.toNatClampNeg)) 144) <|
        letv (sI σ 39 ((mI σ 21 (x1.toNatClampNeg)).toNatClampNeg) (1 &&& 1)) fun σ69 =>
        some σ69)) : Option (Mem)) fun σ52_ =>
    letv (x1 + 1) fun v70 =>
    rec v70 σ52_)
def L_Da_knowShade_l32 (N : Nat) : Nat → Int32 → Mem → Option (Mem)
  | 0, _, _ => none
  | k + 1, x1, σ => B_Da_knowShade_l32 N (L_Da_knowShade_l32 N k) x1 σ
set_option maxHeartbeats 4000000 in
set_option maxRecDepth 20000 in
theorem cL_Da_knowShade_l32 (Z : ZX) {Y : YX} {Q : State → Prop} {N : Nat} {Good : Mem → Prop} (hE : ∀ (σe : Mem), Good σe → V (mkB Z) Y m_Da_knowShade 3 Q 0 0 nC σe 76 [(0, rf Z 33)] []) : ∀ (k : Nat) (x1 : Int32) (σ : Mem) (res : Mem), L_Da_knowShade_l32 N k x1 σ = some res → Good res → V (mkB Z) Y m_Da_knowShade 3 Q 0 0 nC σ 32 [(0, rf Z 33), (1, .int x1)] [] := by
  intro k
  induction k with
  | zero => intro x1 σ res h; cases h
  | succ k ih =>
    intro x1 σ res h hg
    replace h : B_Da_knowShade_l32 N (L_Da_knowShade_l32 N k) x1 σ = some res := h
    unfold B_Da_knowShade_l32 at h
    refine V.iload_n d_Da_knowShade_32 rfl 1 rfl ?_
    refine V.aload_n d_Da_knowShade_33 rfl 0 rfl ?_
    refine V.getR (r := 19) ok_Da fl_Da_41 (by decide) (by decide) ly_33 rfl d_Da_knowShade_34 ?_
    refine V.getI ok_To fl_Da_122 (by decide) (by decide) ly_19 rfl d_Da_knowShade_37 ?_
    refine V.icmp_ge (tgt := 76) d_Da_knowShade_40 (by decide) (fun hc40 => ?_) (fun hc40 => ?_)
    · replace h := ite_t hc40 h
      cases h
      exact V.pick [0] rfl (hE _ hg)
    · replace h := ite_f hc40 h
      refine V.aload_n d_Da_knowShade_43 rfl 0 rfl ?_
      refine V.getR (r := 19) ok_Da fl_Da_41 (by decide) (by decide) ly_33 rfl d_Da_knowShade_44 ?_
      refine V.iload_n d_Da_knowShade_47 rfl 1 rfl ?_
      refine V.iconst (v := 0) d_Da_knowShade_48 (by decide) ?_
      obtain ⟨r49, h1, h⟩ := bnd1_e h
      refine V.vI (as := [.int x1, .int 0]) (st := []) (c_To_isStandingOf Z h1) k_To_isStandingOf lk_Da_125 (by decide) rfl (by decide) ly_19 ok_To.1 rfl (Nat.le_of_ble_eq_true rfl) d_Da_knowShade_49 ?_
      obtain ⟨s52, h1, h⟩ := bnd1_e h
      have J52_70 : ∀ (σ52_ : Mem), s52 = σ52_ → V (mkB Z) Y m_Da_knowShade 3 Q 0 0 nC σ52_ 70 [(0, rf Z 33), (1, .int x1)] [] := by
        intro σ52_ he
        rw [he] at h
        obtain ⟨v70, e_v70, h⟩ := letv_e h
        refine V.iinc (v := v70) (lv' := [(1, .int v70), (0, rf Z 33)]) d_Da_knowShade_70 1 rfl (by rw [e_v70]; rfl) (by decide) rfl ?_
        refine V.goto (tgt := 32) d_Da_knowShade_73 (by decide) ?_
        exact V.pick [1, 0] rfl (ih _ _ _ h hg)
      replace h := h1
      refine V.if_eq (tgt := 70) d_Da_knowShade_52 (by decide) (fun hc52 => ?_) (fun hc52 => ?_)
      · replace h := ite_t hc52 h
        exact V.pick [0, 1] rfl (J52_70 _ (Option.some.inj h).symm)
      · replace h := ite_f hc52 h
        refine V.aload_n d_Da_knowShade_55 rfl 0 rfl ?_
        refine V.getR (r := 39) ok_Da fl_Da_32 (by decide) (by decide) ly_33 rfl d_Da_knowShade_56 ?_
        refine V.aload_n d_Da_knowShade_59 rfl 0 rfl ?_
        refine V.getR (r := 19) ok_Da fl_Da_41 (by decide) (by decide) ly_33 rfl d_Da_knowShade_60 ?_
        refine V.getR (r := 21) ok_To fl_Da_129 (by decide) (by decide) ly_19 rfl d_Da_knowShade_63 ?_
        refine V.iload_n d_Da_knowShade_66 rfl 1 rfl ?_
        obtain ⟨gq, h⟩ := grd_e h
        refine V.ra (by decide) ly_21 (inb_e gq) rfl d_Da_knowShade_67 ?_
        refine V.iconst (v := 1) d_Da_knowShade_68 (by decide) ?_
        obtain ⟨gq, h⟩ := grd_e h
        obtain ⟨σ69, e_σ69, h⟩ := letv_e h
        refine V.wz (by decide) ly_39 (inb_e gq) rfl d_Da_knowShade_69 e_σ69 ?_
        exact V.pick [0, 1] rfl (J52_70 _ (Option.some.inj h).symm)
def B_Da_knowShade_l78 (N : Nat) (rec : Int32 → Mem → Option (Mem)) (x1 : Int32) (σ : Mem) : Option (Mem) :=
  if (24 * (mI σ 19 6)) ≤ x1 then
    (letv (sI σ 33 9 1) fun σ148 =>
    some σ148)
  else
    (letv (x1 - x1 / 24 * 24) fun v96 =>
    letv (x1 / 24) fun v101 =>
    grd (inb v96 24) <|
    bnd1 ((
      if (mI σ 34 (v96.toNatClampNeg)) = 0 then
        (some σ)
      else
        (bnd1 (f_To_isStanding σ v101) fun r116 =>
        if r116 = 0 then
          (some σ)
        else
          (bnd1 (f_Da_spread N σ v101 v96 38 3456 (v96 * 144) (1 <<< (v101 &&& 31))) fun σ137 =>
          some σ137))) : Option (Mem)) fun σ108_ =>
    letv (x1 + 1) fun v140 =>
    rec v140 σ108_)
def L_Da_knowShade_l78 (N : Nat) : Nat → Int32 → Mem → Option (Mem)
  | 0, _, _ => none
  | k + 1, x1, σ => B_Da_knowShade_l78 N (L_Da_knowShade_l78 N k) x1 σ
set_option maxHeartbeats 4000000 in
set_option maxRecDepth 20000 in
theorem cL_Da_knowShade_l78 (Z : ZX) {Y : YX} {post : Option Value → Mem → Prop} {N : Nat} {Good : Mem → Prop} (hR : ∀ (σr : Mem), Good σr → post none σr) : ∀ (k : Nat) (x1 : Int32) (σ : Mem) (res : Mem), L_Da_knowShade_l78 N k x1 σ = some res → Good res → V (mkB Z) Y m_Da_knowShade 3 (QP (mkB Z) Y nC 0 0 post) 0 0 nC σ 78 [(0, rf Z 33), (1, .int x1)] [] := by
  intro k
  induction k with
  | zero => intro x1 σ res h; cases h
  | succ k ih =>
    intro x1 σ res h hg
    replace h : B_Da_knowShade_l78 N (L_Da_knowShade_l78 N k) x1 σ = some res := h
    unfold B_Da_knowShade_l78 at h
    refine V.iload_n d_Da_knowShade_78 rfl 1 rfl ?_
    refine V.bipush (v := 24) d_Da_knowShade_79 (by decide) ?_
    refine V.aload_n d_Da_knowShade_81 rfl 0 rfl ?_
    refine V.getR (r := 19) ok_Da fl_Da_41 (by decide) (by decide) ly_33 rfl d_Da_knowShade_82 ?_
    refine V.getI ok_To fl_Da_122 (by decide) (by decide) ly_19 rfl d_Da_knowShade_85 ?_
    refine V.imul d_Da_knowShade_88 ?_
    refine V.icmp_ge (tgt := 146) d_Da_knowShade_89 (by decide) (fun hc89 => ?_) (fun hc89 => ?_)
    · replace h := ite_t hc89 h
      refine V.aload_n d_Da_knowShade_146 rfl 0 rfl ?_
      refine V.iconst (v := 1) d_Da_knowShade_147 (by decide) ?_
      obtain ⟨σ148, e_σ148, h⟩ := letv_e h
      refine V.putI ok_Da fl_Da_35 (by decide) (by decide) ly_33 rfl rfl rfl rfl d_Da_knowShade_148 (V.mem e_σ148 ?_)
      cases h
      exact V.vret rfl d_Da_knowShade_151 (hR _ hg)
    · replace h := ite_f hc89 h
      refine V.iload_n d_Da_knowShade_92 rfl 1 rfl ?_
      refine V.bipush (v := 24) d_Da_knowShade_93 (by decide) ?_
      refine V.irem d_Da_knowShade_95 (by decide) ?_
      obtain ⟨v96, e_v96, h⟩ := letv_e h
      refine V.topI e_v96 ?_
      refine V.istore_n (lv' := [(2, .int v96), (0, rf Z 33), (1, .int x1)]) d_Da_knowShade_96 rfl (by decide) rfl ?_
      refine V.iload_n d_Da_knowShade_97 rfl 2 rfl ?_
      refine V.bipush (v := 24) d_Da_knowShade_98 (by decide) ?_
      refine V.idiv d_Da_knowShade_100 (by decide) ?_
      obtain ⟨v101, e_v101, h⟩ := letv_e h
      refine V.topI e_v101 ?_
      refine V.istore_n (lv' := [(3, .int v101), (2, .int v96), (0, rf Z 33), (1, .int x1)]) d_Da_knowShade_101 rfl (by decide) rfl ?_
      refine V.aload_n d_Da_knowShade_102 rfl 2 rfl ?_
      refine V.getR (r := 34) ok_Da fl_Da_9 (by decide) (by decide) ly_33 rfl d_Da_knowShade_103 ?_
      refine V.iload_n d_Da_knowShade_106 rfl 1 rfl ?_
      obtain ⟨gq, h⟩ := grd_e h
      refine V.rz (by decide) ly_34 (inb_e gq) rfl d_Da_knowShade_107 ?_
      obtain ⟨s108, h1, h⟩ := bnd1_e h
      have J108_140 : ∀ (σ108_ : Mem), s108 = σ108_ → V (mkB Z) Y m_Da_knowShade 3 (QP (mkB Z) Y nC 0 0 post) 0 0 nC σ108_ 140 [(0, rf Z 33), (1, .int x1)] [] := by
        intro σ108_ he
        rw [he] at h
        obtain ⟨v140, e_v140, h⟩ := letv_e h
        refine V.iinc (v := v140) (lv' := [(1, .int v140), (0, rf Z 33)]) d_Da_knowShade_140 1 rfl (by rw [e_v140]; rfl) (by decide) rfl ?_
        refine V.goto (tgt := 78) d_Da_knowShade_143 (by decide) ?_
        exact V.pick [1, 0] rfl (ih _ _ _ h hg)
      replace h := h1
      refine V.if_eq (tgt := 140) d_Da_knowShade_108 (by decide) (fun hc108 => ?_) (fun hc108 => ?_)
      · replace h := ite_t hc108 h
        exact V.pick [2, 3] rfl (J108_140 _ (Option.some.inj h).symm)
      · replace h := ite_f hc108 h
        refine V.aload_n d_Da_knowShade_111 rfl 2 rfl ?_
        refine V.getR (r := 19) ok_Da fl_Da_41 (by decide) (by decide) ly_33 rfl d_Da_knowShade_112 ?_
        refine V.iload_n d_Da_knowShade_115 rfl 0 rfl ?_
        obtain ⟨r116, h1, h⟩ := bnd1_e h
        refine V.vI (as := [.int v101]) (st := []) (c_To_isStanding Z h1) k_To_isStanding lk_Da_132 (by decide) rfl (by decide) ly_19 ok_To.1 rfl (Nat.le_of_ble_eq_true rfl) d_Da_knowShade_116 ?_
        refine V.if_eq (tgt := 140) d_Da_knowShade_119 (by decide) (fun hc119 => ?_) (fun hc119 => ?_)
        · replace h := ite_t hc119 h
          exact V.pick [2, 3] rfl (J108_140 _ (Option.some.inj h).symm)
        · replace h := ite_f hc119 h
          refine V.aload_n d_Da_knowShade_122 rfl 2 rfl ?_
          refine V.iload_n d_Da_knowShade_123 rfl 0 rfl ?_
          refine V.iload_n d_Da_knowShade_124 rfl 1 rfl ?_
          refine V.aload_n d_Da_knowShade_125 rfl 2 rfl ?_
          refine V.getR (r := 38) ok_Da fl_Da_29 (by decide) (by decide) ly_33 rfl d_Da_knowShade_126 ?_
          refine V.iload_n d_Da_knowShade_129 rfl 1 rfl ?_
          refine V.sipush (v := 144) d_Da_knowShade_130 (by decide) ?_
          refine V.imul d_Da_knowShade_133 ?_
          refine V.iconst (v := 1) d_Da_knowShade_134 (by decide) ?_
          refine V.iload_n d_Da_knowShade_135 rfl 0 rfl ?_
          refine V.ishl d_Da_knowShade_136 ?_
          obtain ⟨σ137, h1, h⟩ := bnd1_e h
          refine V.vN (as := [.int v101, .int v96, rf Z 38, .int (v96 * 144), .int (1 <<< (v101 &&& 31))]) (st := []) (c_Da_spread Z (by decide) ly_38 h1) k_Da_spread lk_Da_106 (by decide) rfl (by decide) ly_33 ok_Da.1 rfl (Nat.le_of_ble_eq_true rfl) d_Da_knowShade_137 ?_
          exact V.pick [2, 3] rfl (J108_140 _ (Option.some.inj h).symm)
def f_Da_knowShade (N : Nat) (σ : Mem) : Option (Mem) :=
  bnd1 (f_JA_fill_53178 N σ 38 3456 0) fun σ5 =>
  bnd1 (L_Da_knowShade_l10 N N 0 σ5) fun σ10_ =>
  bnd1 (L_Da_knowShade_l32 N N 0 σ10_) fun σ32_ =>
  L_Da_knowShade_l78 N N 0 σ32_
set_option maxHeartbeats 4000000 in
set_option maxRecDepth 20000 in
theorem c_Da_knowShade (Z : ZX) {N : Nat} {σ : Mem} {σ' : Mem} (h : f_Da_knowShade N σ = some σ') : CN Z 3 m_Da_knowShade [rf Z 33] σ σ' := by
  refine Ct.of (by decide +kernel) (Nat.le_of_ble_eq_true rfl) (fun Y => ?_)
  show V (mkB Z) Y m_Da_knowShade 3 (QP (mkB Z) Y nC 0 0 (fun v t => v = none ∧ t = σ')) 0 0 nC σ 0 [(0, rf Z 33)] []
  unfold f_Da_knowShade at h
  refine V.aload_n d_Da_knowShade_0 rfl 0 rfl ?_
  refine V.getR (r := 38) ok_Da fl_Da_29 (by decide) (by decide) ly_33 rfl d_Da_knowShade_1 ?_
  refine V.iconst (v := 0) d_Da_knowShade_4 (by decide) ?_
  obtain ⟨σ5, h1, h⟩ := bnd1_e h
  refine V.sN (as := [rf Z 38, .int 0]) (st := []) (c_JA_fill_53178 Z (by decide) ly_38 h1) k_JA_fill_53178 lk_Da_97 (by decide) rfl rfl (Nat.le_of_ble_eq_true rfl) d_Da_knowShade_5 ?_
  refine V.iconst (v := 0) d_Da_knowShade_8 (by decide) ?_
  refine V.istore_n (lv' := [(1, .int 0), (0, rf Z 33)]) d_Da_knowShade_9 rfl (by decide) rfl ?_
  obtain ⟨x10_, h1, h⟩ := bnd1_e h
  refine V.pick [1, 0] rfl (cL_Da_knowShade_l10 Z (Good := fun z => x10_ = z) (fun σ10_ he => ?_) N _ _ _ h1 rfl)
  · rw [he] at h
    refine V.iconst (v := 0) d_Da_knowShade_30 (by decide) ?_
    refine V.istore_n (lv' := [(1, .int 0), (0, rf Z 33)]) d_Da_knowShade_31 rfl (by decide) rfl ?_
    obtain ⟨x32_, h1, h⟩ := bnd1_e h
    refine V.pick [1, 0] rfl (cL_Da_knowShade_l32 Z (Good := fun z => x32_ = z) (fun σ32_ he => ?_) N _ _ _ h1 rfl)
    · rw [he] at h
      refine V.iconst (v := 0) d_Da_knowShade_76 (by decide) ?_
      refine V.istore_n (lv' := [(1, .int 0), (0, rf Z 33)]) d_Da_knowShade_77 rfl (by decide) rfl ?_
      refine V.pick [1, 0] rfl (cL_Da_knowShade_l78 Z (Good := fun z => z = _) (fun r78m he => ?_) N _ _ _ h rfl)
      · cases he
        exact ⟨rfl, rfl⟩
abbrev m_Da_know : MI := (⟨"ShadeTown$Day", "know", "()V"⟩, prog_3_method_4_code, 1, (Option.none : Option Jvm.ClassFile.FieldType))
theorem d_Da_know_0 : decode prog_3_method_4_code 0 = .ok (.aload_n 0, 1) := by decide +kernel
theorem d_Da_know_1 : decode prog_3_method_4_code 1 = .ok (.getfield 25, 3) := by decide +kernel
theorem d_Da_know_7 : decode prog_3_method_4_code 7 = .ok (.aload_n 0, 1) := by decide +kernel
theorem d_Da_know_8 : decode prog_3_method_4_code 8 = .ok (.invokevirtual 49, 3) := by decide +kernel
theorem k_Da_knowSky : MOk m_Da_knowSky 0 ∧ IOk m_Da_knowSky := ⟨⟨atG 762 (by decide +kernel) rfl, atG 116 (by decide +kernel) rfl, ⟨by decide, by decide⟩, by decide +kernel, by decide⟩, atG 761 (by decide +kernel) rfl, atG 17 (by decide +kernel) rfl⟩
theorem lk_Da_49 : Cond.methodLink "ShadeTown$Day" 49 ⟨"ShadeTown$Day", "knowSky", "()V"⟩ ∈ tblG := atG 759 (by decide +kernel) rfl
theorem d_Da_know_4 : decode prog_3_method_4_code 4 = .ok (.ifCond .ne 7, 3) := by decide +kernel
theorem d_Da_know_11 : decode prog_3_method_4_code 11 = .ok (.aload_n 0, 1) := by decide +kernel
theorem d_Da_know_12 : decode prog_3_method_4_code 12 = .ok (.getfield 35, 3) := by decide +kernel
theorem d_Da_know_22 : decode prog_3_method_4_code 22 = .ok (.return_, 1) := by decide +kernel
theorem d_Da_know_18 : decode prog_3_method_4_code 18 = .ok (.aload_n 0, 1) := by decide +kernel
theorem d_Da_know_19 : decode prog_3_method_4_code 19 = .ok (.invokevirtual 52, 3) := by decide +kernel
theorem k_Da_knowShade : MOk m_Da_knowShade 0 ∧ IOk m_Da_knowShade := ⟨⟨atG 790 (by decide +kernel) rfl, atG 116 (by decide +kernel) rfl, ⟨by decide, by decide⟩, by decide +kernel, by decide⟩, atG 789 (by decide +kernel) rfl, atG 19 (by decide +kernel) rfl⟩
theorem lk_Da_52 : Cond.methodLink "ShadeTown$Day" 52 ⟨"ShadeTown$Day", "knowShade", "()V"⟩ ∈ tblG := atG 787 (by decide +kernel) rfl
theorem d_Da_know_15 : decode prog_3_method_4_code 15 = .ok (.ifCond .ne 7, 3) := by decide +kernel
def f_Da_know (N : Nat) (σ : Mem) : Option (Mem) :=
  bnd1 ((
    if (mI σ 33 6) = 0 then
      (bnd1 (f_Da_knowSky N σ) fun σ8 =>
      some σ8)
    else
      (some σ)) : Option (Mem)) fun σ4_ =>
  if (mI σ4_ 33 9) = 0 then
    (bnd1 (f_Da_knowShade N σ4_) fun σ19 =>
    some σ19)
  else
    (some σ4_)
set_option maxHeartbeats 4000000 in
set_option maxRecDepth 20000 in
theorem c_Da_know (Z : ZX) {N : Nat} {σ : Mem} {σ' : Mem} (h : f_Da_know N σ = some σ') : CN Z 4 m_Da_know [rf Z 33] σ σ' := by
  refine Ct.of (by decide +kernel) (Nat.le_of_ble_eq_true rfl) (fun Y => ?_)
  show V (mkB Z) Y m_Da_know 4 (QP (mkB Z) Y nC 0 0 (fun v t => v = none ∧ t = σ')) 0 0 nC σ 0 [(0, rf Z 33)] []
  unfold f_Da_know at h
  refine V.aload_n d_Da_know_0 rfl 0 rfl ?_
  refine V.getI ok_Da fl_Da_25 (by decide) (by decide) ly_33 rfl d_Da_know_1 ?_
  obtain ⟨s4, h1, h⟩ := bnd1_e h
  have J4_11 : ∀ (σ4_ : Mem), s4 = σ4_ → V (mkB Z) Y m_Da_know 4 (QP (mkB Z) Y nC 0 0 (fun v t => v = none ∧ t = σ')) 0 0 nC σ4_ 11 [(0, rf Z 33)] [] := by
    intro σ4_ he
    rw [he] at h
    refine V.aload_n d_Da_know_11 rfl 0 rfl ?_
    refine V.getI ok_Da fl_Da_35 (by decide) (by decide) ly_33 rfl d_Da_know_12 ?_
    refine V.if_ne (tgt := 22) d_Da_know_15 (by decide) (fun hc15 => ?_) (fun hc15 => ?_)
    · replace h := ite_f hc15 h
      cases h
      exact V.vret rfl d_Da_know_22 ⟨rfl, rfl⟩
    · replace h := ite_t hc15 h
      refine V.aload_n d_Da_know_18 rfl 0 rfl ?_
      obtain ⟨σ19, h1, h⟩ := bnd1_e h
      refine V.vN (as := []) (st := []) (c_Da_knowShade Z h1) k_Da_knowShade lk_Da_52 (by decide) rfl (by decide) ly_33 ok_Da.1 rfl (Nat.le_of_ble_eq_true rfl) d_Da_know_19 ?_
      cases h
      exact V.vret rfl d_Da_know_22 ⟨rfl, rfl⟩
  replace h := h1
  refine V.if_ne (tgt := 11) d_Da_know_4 (by decide) (fun hc4 => ?_) (fun hc4 => ?_)
  · replace h := ite_f hc4 h
    exact V.pick [0] rfl (J4_11 _ (Option.some.inj h).symm)
  · replace h := ite_t hc4 h
    refine V.aload_n d_Da_know_7 rfl 0 rfl ?_
    obtain ⟨σ8, h1, h⟩ := bnd1_e h
    refine V.vN (as := []) (st := []) (c_Da_knowSky Z h1) k_Da_knowSky lk_Da_49 (by decide) rfl (by decide) ly_33 ok_Da.1 rfl (Nat.le_of_ble_eq_true rfl) d_Da_know_8 ?_
    exact V.pick [0] rfl (J4_11 _ (Option.some.inj h).symm)
abbrev m_Sh_today : MI := (⟨"ShadeTown", "today", "()LShadeTown$Day;"⟩, prog_1_method_40_code, 1, (Option.some (Jvm.ClassFile.FieldType.object "ShadeTown$Day")))
theorem d_Sh_today_0 : decode prog_1_method_40_code 0 = .ok (.aload_n 0, 1) := by decide +kernel
theorem d_Sh_today_1 : decode prog_1_method_40_code 1 = .ok (.getfield 54, 3) := by decide +kernel
theorem d_Sh_today_4 : decode prog_1_method_40_code 4 = .ok (.invokevirtual 385, 3) := by decide +kernel
theorem k_Da_know : MOk m_Da_know 0 ∧ IOk m_Da_know := ⟨⟨atG 758 (by decide +kernel) rfl, atG 116 (by decide +kernel) rfl, ⟨by decide, by decide⟩, by decide +kernel, by decide⟩, atG 756 (by decide +kernel) rfl, atG 757 (by decide +kernel) rfl⟩
theorem lk_Sh_385 : Cond.methodLink "ShadeTown" 385 ⟨"ShadeTown$Day", "know", "()V"⟩ ∈ tblG := atG 755 (by decide +kernel) rfl
theorem d_Sh_today_7 : decode prog_1_method_40_code 7 = .ok (.aload_n 0, 1) := by decide +kernel
theorem d_Sh_today_8 : decode prog_1_method_40_code 8 = .ok (.getfield 54, 3) := by decide +kernel
theorem d_Sh_today_11 : decode prog_1_method_40_code 11 = .ok (.areturn, 1) := by decide +kernel
def f_Sh_today (N : Nat) (σ : Mem) : Option (Mem) :=
  bnd1 (f_Da_know N σ) fun σ4 =>
  some σ4
set_option maxHeartbeats 4000000 in
set_option maxRecDepth 20000 in
theorem c_Sh_today (Z : ZX) {N : Nat} {σ : Mem} {σ' : Mem} (h : f_Sh_today N σ = some σ') : CA Z 5 m_Sh_today [rf Z 0] σ 33 σ' := by
  refine Ct.of (by decide +kernel) (Nat.le_of_ble_eq_true rfl) (fun Y => ?_)
  show V (mkB Z) Y m_Sh_today 5 (QP (mkB Z) Y nC 0 0 (fun v t => v = some (rf Z 33) ∧ t = σ')) 0 0 nC σ 0 [(0, rf Z 0)] []
  unfold f_Sh_today at h
  refine V.aload_n d_Sh_today_0 rfl 0 rfl ?_
  refine V.getR (r := 33) ok_Sh fl_Sh_54 (by decide) (by decide) ly_0 rfl d_Sh_today_1 ?_
  obtain ⟨σ4, h1, h⟩ := bnd1_e h
  refine V.vN (as := []) (st := []) (c_Da_know Z h1) k_Da_know lk_Sh_385 (by decide) rfl (by decide) ly_33 ok_Da.1 rfl (Nat.le_of_ble_eq_true rfl) d_Sh_today_4 ?_
  refine V.aload_n d_Sh_today_7 rfl 0 rfl ?_
  refine V.getR (r := 33) ok_Sh fl_Sh_54 (by decide) (by decide) ly_0 rfl d_Sh_today_8 ?_
  cases h
  exact V.aret rfl (Or.inl ⟨_, rfl⟩) d_Sh_today_11 ⟨rfl, rfl⟩
abbrev m_Da_isFree : MI := (⟨"ShadeTown$Day", "isFree", "(I)Z"⟩, prog_3_method_9_code, 2, (Option.some Jvm.ClassFile.FieldType.boolean))
theorem d_Da_isFree_0 : decode prog_3_method_9_code 0 = .ok (.iload_n 1, 1) := by decide +kernel
theorem d_Da_isFree_24 : decode prog_3_method_9_code 24 = .ok (.iconst 0, 1) := by decide +kernel
theorem d_Da_isFree_25 : decode prog_3_method_9_code 25 = .ok (.ireturn, 1) := by decide +kernel
theorem d_Da_isFree_4 : decode prog_3_method_9_code 4 = .ok (.iload_n 1, 1) := by decide +kernel
theorem d_Da_isFree_5 : decode prog_3_method_9_code 5 = .ok (.sipush 144, 3) := by decide +kernel
theorem d_Da_isFree_11 : decode prog_3_method_9_code 11 = .ok (.aload_n 0, 1) := by decide +kernel
theorem d_Da_isFree_12 : decode prog_3_method_9_code 12 = .ok (.getfield 32, 3) := by decide +kernel
theorem d_Da_isFree_15 : decode prog_3_method_9_code 15 = .ok (.iload_n 1, 1) := by decide +kernel
theorem d_Da_isFree_16 : decode prog_3_method_9_code 16 = .ok (.baload, 1) := by decide +kernel
theorem d_Da_isFree_20 : decode prog_3_method_9_code 20 = .ok (.iconst 1, 1) := by decide +kernel
theorem d_Da_isFree_21 : decode prog_3_method_9_code 21 = .ok (.goto 4, 3) := by decide +kernel
theorem d_Da_isFree_17 : decode prog_3_method_9_code 17 = .ok (.ifCond .ne 7, 3) := by decide +kernel
theorem d_Da_isFree_8 : decode prog_3_method_9_code 8 = .ok (.if_icmp .ge 16, 3) := by decide +kernel
theorem d_Da_isFree_1 : decode prog_3_method_9_code 1 = .ok (.ifCond .lt 23, 3) := by decide +kernel
def f_Da_isFree (σ : Mem) (a1 : Int32) : Option (Int32) :=
  if a1 < 0 then
    (some 0)
  else
    (if 144 ≤ a1 then
      (some 0)
    else
      (grd (inb a1 144) <|
      if (mI σ 39 (a1.toNatClampNeg)) = 0 then
        (some 1)
      else
        (some 0)))
set_option maxHeartbeats 4000000 in
set_option maxRecDepth 20000 in
theorem c_Da_isFree (Z : ZX) {σ : Mem} {a1 : Int32} {r : Int32} (h : f_Da_isFree σ a1 = some r) : CI Z 0 m_Da_isFree [rf Z 33, .int a1] σ r σ := by
  refine Ct.of (by decide +kernel) (Nat.le_of_ble_eq_true rfl) (fun Y => ?_)
  show V (mkB Z) Y m_Da_isFree 0 (QP (mkB Z) Y nC 0 0 (fun v t => v = some (.int r) ∧ t = σ)) 0 0 nC σ 0 [(0, rf Z 33), (1, .int a1)] []
  unfold f_Da_isFree at h
  refine V.iload_n d_Da_isFree_0 rfl 1 rfl ?_
  refine V.if_lt (tgt := 24) d_Da_isFree_1 (by decide) (fun hc1 => ?_) (fun hc1 => ?_)
  · replace h := ite_t hc1 h
    refine V.iconst (v := 0) d_Da_isFree_24 (by decide) ?_
    cases h
    exact V.zret rfl rfl d_Da_isFree_25 ⟨rfl, rfl⟩
  · replace h := ite_f hc1 h
    refine V.iload_n d_Da_isFree_4 rfl 1 rfl ?_
    refine V.sipush (v := 144) d_Da_isFree_5 (by decide) ?_
    refine V.icmp_ge (tgt := 24) d_Da_isFree_8 (by decide) (fun hc8 => ?_) (fun hc8 => ?_)
    · replace h := ite_t hc8 h
      refine V.iconst (v := 0) d_Da_isFree_24 (by decide) ?_
      cases h
      exact V.zret rfl rfl d_Da_isFree_25 ⟨rfl, rfl⟩
    · replace h := ite_f hc8 h
      refine V.aload_n d_Da_isFree_11 rfl 0 rfl ?_
      refine V.getR (r := 39) ok_Da fl_Da_32 (by decide) (by decide) ly_33 rfl d_Da_isFree_12 ?_
      refine V.iload_n d_Da_isFree_15 rfl 1 rfl ?_
      obtain ⟨gq, h⟩ := grd_e h
      refine V.rz (by decide) ly_39 (inb_e gq) rfl d_Da_isFree_16 ?_
      refine V.if_ne (tgt := 24) d_Da_isFree_17 (by decide) (fun hc17 => ?_) (fun hc17 => ?_)
      · replace h := ite_f hc17 h
        refine V.iconst (v := 0) d_Da_isFree_24 (by decide) ?_
        cases h
        exact V.zret rfl rfl d_Da_isFree_25 ⟨rfl, rfl⟩
      · replace h := ite_t hc17 h
        refine V.iconst (v := 1) d_Da_isFree_20 (by decide) ?_
        refine V.goto (tgt := 25) d_Da_isFree_21 (by decide) ?_
        cases h
        exact V.zret rfl rfl d_Da_isFree_25 ⟨rfl, rfl⟩
abbrev m_Sh_isFree : MI := (⟨"ShadeTown", "isFree", "(II)Z"⟩, prog_1_method_41_code, 3, (Option.some Jvm.ClassFile.FieldType.boolean))
theorem d_Sh_isFree_0 : decode prog_1_method_41_code 0 = .ok (.iload_n 1, 1) := by decide +kernel
theorem d_Sh_isFree_1 : decode prog_1_method_41_code 1 = .ok (.iload_n 2, 1) := by decide +kernel
theorem d_Sh_isFree_2 : decode prog_1_method_41_code 2 = .ok (.invokestatic 119, 3) := by decide +kernel
theorem d_Sh_isFree_28 : decode prog_1_method_41_code 28 = .ok (.iconst 0, 1) := by decide +kernel
theorem d_Sh_isFree_29 : decode prog_1_method_41_code 29 = .ok (.ireturn, 1) := by decide +kernel
theorem d_Sh_isFree_8 : decode prog_1_method_41_code 8 = .ok (.aload_n 0, 1) := by decide +kernel
theorem d_Sh_isFree_9 : decode prog_1_method_41_code 9 = .ok (.invokevirtual 181, 3) := by decide +kernel
theorem k_Sh_today : MOk m_Sh_today 0 ∧ IOk m_Sh_today := ⟨⟨atG 754 (by decide +kernel) rfl, atG 111 (by decide +kernel) rfl, ⟨by decide, by decide⟩, by decide +kernel, by decide⟩, atG 753 (by decide +kernel) rfl, atG 16 (by decide +kernel) rfl⟩
theorem lk_Sh_181 : Cond.methodLink "ShadeTown" 181 ⟨"ShadeTown", "today", "()LShadeTown$Day;"⟩ ∈ tblG := atG 751 (by decide +kernel) rfl
theorem d_Sh_isFree_12 : decode prog_1_method_41_code 12 = .ok (.bipush 12, 2) := by decide +kernel
theorem d_Sh_isFree_14 : decode prog_1_method_41_code 14 = .ok (.iload_n 2, 1) := by decide +kernel
theorem d_Sh_isFree_15 : decode prog_1_method_41_code 15 = .ok (.imul, 1) := by decide +kernel
theorem d_Sh_isFree_16 : decode prog_1_method_41_code 16 = .ok (.iload_n 1, 1) := by decide +kernel
theorem d_Sh_isFree_17 : decode prog_1_method_41_code 17 = .ok (.iadd, 1) := by decide +kernel
theorem d_Sh_isFree_18 : decode prog_1_method_41_code 18 = .ok (.invokevirtual 225, 3) := by decide +kernel
theorem k_Da_isFree : MOk m_Da_isFree 1 ∧ IOk m_Da_isFree := ⟨⟨atG 816 (by decide +kernel) rfl, atG 116 (by decide +kernel) rfl, ⟨by decide, by decide⟩, by decide +kernel, by decide⟩, atG 814 (by decide +kernel) rfl, atG 815 (by decide +kernel) rfl⟩
theorem lk_Sh_225 : Cond.methodLink "ShadeTown" 225 ⟨"ShadeTown$Day", "isFree", "(I)Z"⟩ ∈ tblG := atG 813 (by decide +kernel) rfl
theorem d_Sh_isFree_24 : decode prog_1_method_41_code 24 = .ok (.iconst 1, 1) := by decide +kernel
theorem d_Sh_isFree_25 : decode prog_1_method_41_code 25 = .ok (.goto 4, 3) := by decide +kernel
theorem d_Sh_isFree_21 : decode prog_1_method_41_code 21 = .ok (.ifCond .eq 7, 3) := by decide +kernel
theorem d_Sh_isFree_5 : decode prog_1_method_41_code 5 = .ok (.ifCond .eq 23, 3) := by decide +kernel
def f_Sh_isFree (N : Nat) (σ : Mem) (a1 : Int32) (a2 : Int32) : Option (Int32 × Mem) :=
  bnd1 (f_Sh_inTown a1 a2) fun r2 =>
  if r2 = 0 then
    (some (0, σ))
  else
    (bnd1 (f_Sh_today N σ) fun σ9 =>
    bnd1 (f_Da_isFree σ9 ((12 * a2) + a1)) fun r18 =>
    if r18 = 0 then
      (some (0, σ9))
    else
      (some (1, σ9)))
set_option maxHeartbeats 4000000 in
set_option maxRecDepth 20000 in
theorem c_Sh_isFree (Z : ZX) {N : Nat} {σ : Mem} {a1 : Int32} {a2 : Int32} {r : Int32} {σ' : Mem} (h : f_Sh_isFree N σ a1 a2 = some (r, σ')) : CI Z 6 m_Sh_isFree [rf Z 0, .int a1, .int a2] σ r σ' := by
  refine Ct.of (by decide +kernel) (Nat.le_of_ble_eq_true rfl) (fun Y => ?_)
  show V (mkB Z) Y m_Sh_isFree 6 (QP (mkB Z) Y nC 0 0 (fun v t => v = some (.int r) ∧ t = σ')) 0 0 nC σ 0 [(0, rf Z 0), (1, .int a1), (2, .int a2)] []
  unfold f_Sh_isFree at h
  refine V.iload_n d_Sh_isFree_0 rfl 1 rfl ?_
  refine V.iload_n d_Sh_isFree_1 rfl 2 rfl ?_
  obtain ⟨r2, h1, h⟩ := bnd1_e h
  refine V.sI (as := [.int a1, .int a2]) (st := []) (c_Sh_inTown Z h1) k_Sh_inTown lk_Sh_119 (by decide) rfl rfl (Nat.le_of_ble_eq_true rfl) d_Sh_isFree_2 ?_
  refine V.if_eq (tgt := 28) d_Sh_isFree_5 (by decide) (fun hc5 => ?_) (fun hc5 => ?_)
  · replace h := ite_t hc5 h
    refine V.iconst (v := 0) d_Sh_isFree_28 (by decide) ?_
    cases h
    exact V.zret rfl rfl d_Sh_isFree_29 ⟨rfl, rfl⟩
  · replace h := ite_f hc5 h
    refine V.aload_n d_Sh_isFree_8 rfl 0 rfl ?_
    obtain ⟨σ9, h1, h⟩ := bnd1_e h
    refine V.vA (as := []) (st := []) (c_Sh_today Z h1) k_Sh_today lk_Sh_181 (by decide) rfl (by decide) ly_0 ok_Sh.1 rfl (Nat.le_of_ble_eq_true rfl) d_Sh_isFree_9 ?_
    refine V.bipush (v := 12) d_Sh_isFree_12 (by decide) ?_
    refine V.iload_n d_Sh_isFree_14 rfl 2 rfl ?_
    refine V.imul d_Sh_isFree_15 ?_
    refine V.iload_n d_Sh_isFree_16 rfl 1 rfl ?_
    refine V.iadd d_Sh_isFree_17 ?_
    obtain ⟨r18, h1, h⟩ := bnd1_e h
    refine V.vI (as := [.int ((12 * a2) + a1)]) (st := []) (c_Da_isFree Z h1) k_Da_isFree lk_Sh_225 (by decide) rfl (by decide) ly_33 ok_Da.1 rfl (Nat.le_of_ble_eq_true rfl) d_Sh_isFree_18 ?_
    refine V.if_eq (tgt := 28) d_Sh_isFree_21 (by decide) (fun hc21 => ?_) (fun hc21 => ?_)
    · replace h := ite_t hc21 h
      refine V.iconst (v := 0) d_Sh_isFree_28 (by decide) ?_
      cases h
      exact V.zret rfl rfl d_Sh_isFree_29 ⟨rfl, rfl⟩
    · replace h := ite_f hc21 h
      refine V.iconst (v := 1) d_Sh_isFree_24 (by decide) ?_
      refine V.goto (tgt := 29) d_Sh_isFree_25 (by decide) ?_
      cases h
      exact V.zret rfl rfl d_Sh_isFree_29 ⟨rfl, rfl⟩
abbrev m_Sh_move : MI := (⟨"ShadeTown", "move", "(III)Z"⟩, prog_1_method_7_code, 4, (Option.some Jvm.ClassFile.FieldType.boolean))
theorem d_Sh_move_0 : decode prog_1_method_7_code 0 = .ok (.aload_n 0, 1) := by decide +kernel
theorem d_Sh_move_1 : decode prog_1_method_7_code 1 = .ok (.getfield 38, 3) := by decide +kernel
theorem d_Sh_move_4 : decode prog_1_method_7_code 4 = .ok (.iload_n 1, 1) := by decide +kernel
theorem d_Sh_move_5 : decode prog_1_method_7_code 5 = .ok (.iconst 3, 1) := by decide +kernel
theorem d_Sh_move_6 : decode prog_1_method_7_code 6 = .ok (.invokevirtual 149, 3) := by decide +kernel
theorem lk_Sh_149 : Cond.methodLink "ShadeTown" 149 ⟨"ShadeTown$Town", "isStandingOf", "(II)Z"⟩ ∈ tblG := atG 746 (by decide +kernel) rfl
theorem d_Sh_move_21 : decode prog_1_method_7_code 21 = .ok (.iconst 0, 1) := by decide +kernel
theorem d_Sh_move_22 : decode prog_1_method_7_code 22 = .ok (.ireturn, 1) := by decide +kernel
theorem d_Sh_move_12 : decode prog_1_method_7_code 12 = .ok (.aload_n 0, 1) := by decide +kernel
theorem d_Sh_move_13 : decode prog_1_method_7_code 13 = .ok (.iload_n 2, 1) := by decide +kernel
theorem d_Sh_move_14 : decode prog_1_method_7_code 14 = .ok (.iload_n 3, 1) := by decide +kernel
theorem d_Sh_move_15 : decode prog_1_method_7_code 15 = .ok (.invokevirtual 152, 3) := by decide +kernel
theorem k_Sh_isFree : MOk m_Sh_isFree 2 ∧ IOk m_Sh_isFree := ⟨⟨atG 750 (by decide +kernel) rfl, atG 111 (by decide +kernel) rfl, ⟨by decide, by decide⟩, by decide +kernel, by decide⟩, atG 749 (by decide +kernel) rfl, atG 15 (by decide +kernel) rfl⟩
theorem lk_Sh_152 : Cond.methodLink "ShadeTown" 152 ⟨"ShadeTown", "isFree", "(II)Z"⟩ ∈ tblG := atG 747 (by decide +kernel) rfl
theorem d_Sh_move_23 : decode prog_1_method_7_code 23 = .ok (.aload_n 0, 1) := by decide +kernel
theorem d_Sh_move_24 : decode prog_1_method_7_code 24 = .ok (.getfield 38, 3) := by decide +kernel
theorem fl_Sh_155 : FL "ShadeTown" 155 T_To 1 := atG 220 (by decide +kernel) rfl
theorem d_Sh_move_27 : decode prog_1_method_7_code 27 = .ok (.getfield 155, 3) := by decide +kernel
theorem d_Sh_move_30 : decode prog_1_method_7_code 30 = .ok (.iload_n 1, 1) := by decide +kernel
theorem d_Sh_move_31 : decode prog_1_method_7_code 31 = .ok (.bipush 12, 2) := by decide +kernel
theorem d_Sh_move_33 : decode prog_1_method_7_code 33 = .ok (.iload_n 3, 1) := by decide +kernel
theorem d_Sh_move_34 : decode prog_1_method_7_code 34 = .ok (.imul, 1) := by decide +kernel
theorem d_Sh_move_35 : decode prog_1_method_7_code 35 = .ok (.iload_n 2, 1) := by decide +kernel
theorem d_Sh_move_36 : decode prog_1_method_7_code 36 = .ok (.iadd, 1) := by decide +kernel
theorem d_Sh_move_37 : decode prog_1_method_7_code 37 = .ok (.iastore, 1) := by decide +kernel
theorem d_Sh_move_38 : decode prog_1_method_7_code 38 = .ok (.aload_n 0, 1) := by decide +kernel
theorem d_Sh_move_39 : decode prog_1_method_7_code 39 = .ok (.getfield 54, 3) := by decide +kernel
theorem d_Sh_move_42 : decode prog_1_method_7_code 42 = .ok (.invokevirtual 133, 3) := by decide +kernel
theorem d_Sh_move_45 : decode prog_1_method_7_code 45 = .ok (.iconst 1, 1) := by decide +kernel
theorem d_Sh_move_46 : decode prog_1_method_7_code 46 = .ok (.ireturn, 1) := by decide +kernel
theorem d_Sh_move_18 : decode prog_1_method_7_code 18 = .ok (.ifCond .ne 5, 3) := by decide +kernel
theorem d_Sh_move_9 : decode prog_1_method_7_code 9 = .ok (.ifCond .eq 12, 3) := by decide +kernel
def f_Sh_move (N : Nat) (σ : Mem) (a1 : Int32) (a2 : Int32) (a3 : Int32) : Option (Int32 × Mem) :=
  bnd1 (f_To_isStandingOf σ a1 3) fun r6 =>
  if r6 = 0 then
    (some (0, σ))
  else
    (bnd2 (f_Sh_isFree N σ a2 a3) fun r15 σ15 =>
    if r15 = 0 then
      (some (0, σ15))
    else
      (grd (inb a1 17) <|
      letv (sI σ15 21 (a1.toNatClampNeg) ((12 * a3) + a2)) fun σ37 =>
      bnd1 (f_Da_forgetShade σ37) fun σ42 =>
      some (1, σ42)))
set_option maxHeartbeats 4000000 in
set_option maxRecDepth 20000 in
theorem c_Sh_move (Z : ZX) {N : Nat} {σ : Mem} {a1 : Int32} {a2 : Int32} {a3 : Int32} {r : Int32} {σ' : Mem} (h : f_Sh_move N σ a1 a2 a3 = some (r, σ')) : CI Z 7 m_Sh_move [rf Z 0, .int a1, .int a2, .int a3] σ r σ' := by
  refine Ct.of (by decide +kernel) (Nat.le_of_ble_eq_true rfl) (fun Y => ?_)
  show V (mkB Z) Y m_Sh_move 7 (QP (mkB Z) Y nC 0 0 (fun v t => v = some (.int r) ∧ t = σ')) 0 0 nC σ 0 [(0, rf Z 0), (1, .int a1), (2, .int a2), (3, .int a3)] []
  unfold f_Sh_move at h
  refine V.aload_n d_Sh_move_0 rfl 0 rfl ?_
  refine V.getR (r := 19) ok_Sh fl_Sh_38 (by decide) (by decide) ly_0 rfl d_Sh_move_1 ?_
  refine V.iload_n d_Sh_move_4 rfl 1 rfl ?_
  refine V.iconst (v := 3) d_Sh_move_5 (by decide) ?_
  obtain ⟨r6, h1, h⟩ := bnd1_e h
  refine V.vI (as := [.int a1, .int 3]) (st := []) (c_To_isStandingOf Z h1) k_To_isStandingOf lk_Sh_149 (by decide) rfl (by decide) ly_19 ok_To.1 rfl (Nat.le_of_ble_eq_true rfl) d_Sh_move_6 ?_
  refine V.if_eq (tgt := 21) d_Sh_move_9 (by decide) (fun hc9 => ?_) (fun hc9 => ?_)
  · replace h := ite_t hc9 h
    refine V.iconst (v := 0) d_Sh_move_21 (by decide) ?_
    cases h
    exact V.zret rfl rfl d_Sh_move_22 ⟨rfl, rfl⟩
  · replace h := ite_f hc9 h
    refine V.aload_n d_Sh_move_12 rfl 0 rfl ?_
    refine V.iload_n d_Sh_move_13 rfl 2 rfl ?_
    refine V.iload_n d_Sh_move_14 rfl 3 rfl ?_
    obtain ⟨r15, σ15, h1, h⟩ := bnd2_e h
    refine V.vI (as := [.int a2, .int a3]) (st := []) (c_Sh_isFree Z h1) k_Sh_isFree lk_Sh_152 (by decide) rfl (by decide) ly_0 ok_Sh.1 rfl (Nat.le_of_ble_eq_true rfl) d_Sh_move_15 ?_
    refine V.if_ne (tgt := 23) d_Sh_move_18 (by decide) (fun hc18 => ?_) (fun hc18 => ?_)
    · replace h := ite_f hc18 h
      refine V.aload_n d_Sh_move_23 rfl 0 rfl ?_
      refine V.getR (r := 19) ok_Sh fl_Sh_38 (by decide) (by decide) ly_0 rfl d_Sh_move_24 ?_
      refine V.getR (r := 21) ok_To fl_Sh_155 (by decide) (by decide) ly_19 rfl d_Sh_move_27 ?_
      refine V.iload_n d_Sh_move_30 rfl 1 rfl ?_
      refine V.bipush (v := 12) d_Sh_move_31 (by decide) ?_
      refine V.iload_n d_Sh_move_33 rfl 3 rfl ?_
      refine V.imul d_Sh_move_34 ?_
      refine V.iload_n d_Sh_move_35 rfl 2 rfl ?_
      refine V.iadd d_Sh_move_36 ?_
      obtain ⟨gq, h⟩ := grd_e h
      obtain ⟨σ37, e_σ37, h⟩ := letv_e h
      refine V.wa (by decide) ly_21 (inb_e gq) rfl d_Sh_move_37 e_σ37 ?_
      refine V.aload_n d_Sh_move_38 rfl 0 rfl ?_
      refine V.getR (r := 33) ok_Sh fl_Sh_54 (by decide) (by decide) ly_0 rfl d_Sh_move_39 ?_
      obtain ⟨σ42, h1, h⟩ := bnd1_e h
      refine V.vN (as := []) (st := []) (c_Da_forgetShade Z h1) k_Da_forgetShade lk_Sh_133 (by decide) rfl (by decide) ly_33 ok_Da.1 rfl (Nat.le_of_ble_eq_true rfl) d_Sh_move_42 ?_
      refine V.iconst (v := 1) d_Sh_move_45 (by decide) ?_
      cases h
      exact V.zret rfl rfl d_Sh_move_46 ⟨rfl, rfl⟩
    · replace h := ite_t hc18 h
      refine V.iconst (v := 0) d_Sh_move_21 (by decide) ?_
      cases h
      exact V.zret rfl rfl d_Sh_move_22 ⟨rfl, rfl⟩
abbrev m_Sh_season : MI := (⟨"ShadeTown", "season", "(I)Z"⟩, prog_1_method_8_code, 2, (Option.some Jvm.ClassFile.FieldType.boolean))
theorem d_Sh_season_0 : decode prog_1_method_8_code 0 = .ok (.iload_n 1, 1) := by decide +kernel
theorem d_Sh_season_9 : decode prog_1_method_8_code 9 = .ok (.iconst 0, 1) := by decide +kernel
theorem d_Sh_season_10 : decode prog_1_method_8_code 10 = .ok (.ireturn, 1) := by decide +kernel
theorem d_Sh_season_4 : decode prog_1_method_8_code 4 = .ok (.iload_n 1, 1) := by decide +kernel
theorem d_Sh_season_5 : decode prog_1_method_8_code 5 = .ok (.iconst 3, 1) := by decide +kernel
theorem d_Sh_season_11 : decode prog_1_method_8_code 11 = .ok (.aload_n 0, 1) := by decide +kernel
theorem d_Sh_season_12 : decode prog_1_method_8_code 12 = .ok (.getfield 38, 3) := by decide +kernel
theorem d_Sh_season_15 : decode prog_1_method_8_code 15 = .ok (.iload_n 1, 1) := by decide +kernel
theorem fl_Sh_159 : FL "ShadeTown" 159 T_To 8 := atG 240 (by decide +kernel) rfl
theorem d_Sh_season_16 : decode prog_1_method_8_code 16 = .ok (.putfield 159, 3) := by decide +kernel
theorem d_Sh_season_19 : decode prog_1_method_8_code 19 = .ok (.aload_n 0, 1) := by decide +kernel
theorem d_Sh_season_20 : decode prog_1_method_8_code 20 = .ok (.getfield 54, 3) := by decide +kernel
theorem d_Sh_season_23 : decode prog_1_method_8_code 23 = .ok (.invokevirtual 116, 3) := by decide +kernel
theorem d_Sh_season_26 : decode prog_1_method_8_code 26 = .ok (.iconst 1, 1) := by decide +kernel
theorem d_Sh_season_27 : decode prog_1_method_8_code 27 = .ok (.ireturn, 1) := by decide +kernel
theorem d_Sh_season_6 : decode prog_1_method_8_code 6 = .ok (.if_icmp .le 5, 3) := by decide +kernel
theorem d_Sh_season_1 : decode prog_1_method_8_code 1 = .ok (.ifCond .lt 8, 3) := by decide +kernel
def f_Sh_season (σ : Mem) (a1 : Int32) : Option (Int32 × Mem) :=
  if a1 < 0 then
    (some (0, σ))
  else
    (if a1 ≤ 3 then
      (letv (sI σ 19 8 a1) fun σ16 =>
      bnd1 (f_Da_forgetSky σ16) fun σ23 =>
      some (1, σ23))
    else
      (some (0, σ)))
set_option maxHeartbeats 4000000 in
set_option maxRecDepth 20000 in
theorem c_Sh_season (Z : ZX) {σ : Mem} {a1 : Int32} {r : Int32} {σ' : Mem} (h : f_Sh_season σ a1 = some (r, σ')) : CI Z 1 m_Sh_season [rf Z 0, .int a1] σ r σ' := by
  refine Ct.of (by decide +kernel) (Nat.le_of_ble_eq_true rfl) (fun Y => ?_)
  show V (mkB Z) Y m_Sh_season 1 (QP (mkB Z) Y nC 0 0 (fun v t => v = some (.int r) ∧ t = σ')) 0 0 nC σ 0 [(0, rf Z 0), (1, .int a1)] []
  unfold f_Sh_season at h
  refine V.iload_n d_Sh_season_0 rfl 1 rfl ?_
  refine V.if_lt (tgt := 9) d_Sh_season_1 (by decide) (fun hc1 => ?_) (fun hc1 => ?_)
  · replace h := ite_t hc1 h
    refine V.iconst (v := 0) d_Sh_season_9 (by decide) ?_
    cases h
    exact V.zret rfl rfl d_Sh_season_10 ⟨rfl, rfl⟩
  · replace h := ite_f hc1 h
    refine V.iload_n d_Sh_season_4 rfl 1 rfl ?_
    refine V.iconst (v := 3) d_Sh_season_5 (by decide) ?_
    refine V.icmp_le (tgt := 11) d_Sh_season_6 (by decide) (fun hc6 => ?_) (fun hc6 => ?_)
    · replace h := ite_t hc6 h
      refine V.aload_n d_Sh_season_11 rfl 0 rfl ?_
      refine V.getR (r := 19) ok_Sh fl_Sh_38 (by decide) (by decide) ly_0 rfl d_Sh_season_12 ?_
      refine V.iload_n d_Sh_season_15 rfl 1 rfl ?_
      obtain ⟨σ16, e_σ16, h⟩ := letv_e h
      refine V.putI ok_To fl_Sh_159 (by decide) (by decide) ly_19 rfl rfl rfl rfl d_Sh_season_16 (V.mem e_σ16 ?_)
      refine V.aload_n d_Sh_season_19 rfl 0 rfl ?_
      refine V.getR (r := 33) ok_Sh fl_Sh_54 (by decide) (by decide) ly_0 rfl d_Sh_season_20 ?_
      obtain ⟨σ23, h1, h⟩ := bnd1_e h
      refine V.vN (as := []) (st := []) (c_Da_forgetSky Z h1) k_Da_forgetSky lk_Sh_116 (by decide) rfl (by decide) ly_33 ok_Da.1 rfl (Nat.le_of_ble_eq_true rfl) d_Sh_season_23 ?_
      refine V.iconst (v := 1) d_Sh_season_26 (by decide) ?_
      cases h
      exact V.zret rfl rfl d_Sh_season_27 ⟨rfl, rfl⟩
    · replace h := ite_f hc6 h
      refine V.iconst (v := 0) d_Sh_season_9 (by decide) ?_
      cases h
      exact V.zret rfl rfl d_Sh_season_10 ⟨rfl, rfl⟩
abbrev m_Sh_casterIs : MI := (⟨"ShadeTown", "casterIs", "(II)I"⟩, prog_1_method_9_code, 3, (Option.some Jvm.ClassFile.FieldType.int))
theorem d_Sh_casterIs_0 : decode prog_1_method_9_code 0 = .ok (.aload_n 0, 1) := by decide +kernel
theorem d_Sh_casterIs_1 : decode prog_1_method_9_code 1 = .ok (.getfield 38, 3) := by decide +kernel
theorem d_Sh_casterIs_4 : decode prog_1_method_9_code 4 = .ok (.iload_n 1, 1) := by decide +kernel
theorem d_Sh_casterIs_5 : decode prog_1_method_9_code 5 = .ok (.invokevirtual 163, 3) := by decide +kernel
theorem lk_Sh_163 : Cond.methodLink "ShadeTown" 163 ⟨"ShadeTown$Town", "isCaster", "(I)Z"⟩ ∈ tblG := atG 825 (by decide +kernel) rfl
theorem d_Sh_casterIs_13 : decode prog_1_method_9_code 13 = .ok (.iload_n 2, 1) := by decide +kernel
theorem d_Sh_casterIs_52 : decode prog_1_method_9_code 52 = .ok (.aload_n 0, 1) := by decide +kernel
theorem d_Sh_casterIs_53 : decode prog_1_method_9_code 53 = .ok (.getfield 38, 3) := by decide +kernel
theorem fl_Sh_166 : FL "ShadeTown" 166 T_To 0 := atG 217 (by decide +kernel) rfl
theorem d_Sh_casterIs_56 : decode prog_1_method_9_code 56 = .ok (.getfield 166, 3) := by decide +kernel
theorem d_Sh_casterIs_59 : decode prog_1_method_9_code 59 = .ok (.iload_n 1, 1) := by decide +kernel
theorem d_Sh_casterIs_60 : decode prog_1_method_9_code 60 = .ok (.iaload, 1) := by decide +kernel
theorem d_Sh_casterIs_61 : decode prog_1_method_9_code 61 = .ok (.ireturn, 1) := by decide +kernel
theorem d_Sh_casterIs_62 : decode prog_1_method_9_code 62 = .ok (.aload_n 0, 1) := by decide +kernel
theorem d_Sh_casterIs_63 : decode prog_1_method_9_code 63 = .ok (.getfield 38, 3) := by decide +kernel
theorem d_Sh_casterIs_66 : decode prog_1_method_9_code 66 = .ok (.getfield 155, 3) := by decide +kernel
theorem d_Sh_casterIs_69 : decode prog_1_method_9_code 69 = .ok (.iload_n 1, 1) := by decide +kernel
theorem d_Sh_casterIs_70 : decode prog_1_method_9_code 70 = .ok (.iaload, 1) := by decide +kernel
theorem d_Sh_casterIs_71 : decode prog_1_method_9_code 71 = .ok (.ireturn, 1) := by decide +kernel
theorem d_Sh_casterIs_72 : decode prog_1_method_9_code 72 = .ok (.aload_n 0, 1) := by decide +kernel
theorem d_Sh_casterIs_73 : decode prog_1_method_9_code 73 = .ok (.getfield 38, 3) := by decide +kernel
theorem fl_Sh_169 : FL "ShadeTown" 169 T_To 2 := atG 223 (by decide +kernel) rfl
theorem d_Sh_casterIs_76 : decode prog_1_method_9_code 76 = .ok (.getfield 169, 3) := by decide +kernel
theorem d_Sh_casterIs_79 : decode prog_1_method_9_code 79 = .ok (.iload_n 1, 1) := by decide +kernel
theorem d_Sh_casterIs_80 : decode prog_1_method_9_code 80 = .ok (.iaload, 1) := by decide +kernel
theorem d_Sh_casterIs_81 : decode prog_1_method_9_code 81 = .ok (.ireturn, 1) := by decide +kernel
theorem d_Sh_casterIs_82 : decode prog_1_method_9_code 82 = .ok (.aload_n 0, 1) := by decide +kernel
theorem d_Sh_casterIs_83 : decode prog_1_method_9_code 83 = .ok (.getfield 38, 3) := by decide +kernel
theorem fl_Sh_172 : FL "ShadeTown" 172 T_To 3 := atG 226 (by decide +kernel) rfl
theorem d_Sh_casterIs_86 : decode prog_1_method_9_code 86 = .ok (.getfield 172, 3) := by decide +kernel
theorem d_Sh_casterIs_89 : decode prog_1_method_9_code 89 = .ok (.iload_n 1, 1) := by decide +kernel
theorem d_Sh_casterIs_90 : decode prog_1_method_9_code 90 = .ok (.iaload, 1) := by decide +kernel
theorem d_Sh_casterIs_91 : decode prog_1_method_9_code 91 = .ok (.ireturn, 1) := by decide +kernel
theorem d_Sh_casterIs_92 : decode prog_1_method_9_code 92 = .ok (.aload_n 0, 1) := by decide +kernel
theorem d_Sh_casterIs_93 : decode prog_1_method_9_code 93 = .ok (.getfield 38, 3) := by decide +kernel
theorem fl_Sh_175 : FL "ShadeTown" 175 T_To 4 := atG 230 (by decide +kernel) rfl
theorem d_Sh_casterIs_96 : decode prog_1_method_9_code 96 = .ok (.getfield 175, 3) := by decide +kernel
theorem d_Sh_casterIs_99 : decode prog_1_method_9_code 99 = .ok (.iload_n 1, 1) := by decide +kernel
theorem d_Sh_casterIs_100 : decode prog_1_method_9_code 100 = .ok (.iaload, 1) := by decide +kernel
theorem d_Sh_casterIs_101 : decode prog_1_method_9_code 101 = .ok (.ireturn, 1) := by decide +kernel
theorem d_Sh_casterIs_102 : decode prog_1_method_9_code 102 = .ok (.aload_n 0, 1) := by decide +kernel
theorem d_Sh_casterIs_103 : decode prog_1_method_9_code 103 = .ok (.getfield 38, 3) := by decide +kernel
theorem d_Sh_casterIs_106 : decode prog_1_method_9_code 106 = .ok (.iload_n 1, 1) := by decide +kernel
theorem d_Sh_casterIs_107 : decode prog_1_method_9_code 107 = .ok (.invokevirtual 143, 3) := by decide +kernel
theorem d_Sh_casterIs_117 : decode prog_1_method_9_code 117 = .ok (.iconst 0, 1) := by decide +kernel
theorem d_Sh_casterIs_118 : decode prog_1_method_9_code 118 = .ok (.ireturn, 1) := by decide +kernel
theorem d_Sh_casterIs_113 : decode prog_1_method_9_code 113 = .ok (.iconst 1, 1) := by decide +kernel
theorem d_Sh_casterIs_114 : decode prog_1_method_9_code 114 = .ok (.goto 4, 3) := by decide +kernel
theorem d_Sh_casterIs_110 : decode prog_1_method_9_code 110 = .ok (.ifCond .eq 7, 3) := by decide +kernel
theorem d_Sh_casterIs_119 : decode prog_1_method_9_code 119 = .ok (.iconst (-1), 1) := by decide +kernel
theorem d_Sh_casterIs_120 : decode prog_1_method_9_code 120 = .ok (.ireturn, 1) := by decide +kernel
theorem d_Sh_casterIs_14 : decode prog_1_method_9_code 14 = .ok (.tableswitch 105 0 5 #[38, 48, 58, 68, 78, 88], 38) := by decide +kernel
theorem d_Sh_casterIs_11 : decode prog_1_method_9_code 11 = .ok (.iconst (-1), 1) := by decide +kernel
theorem d_Sh_casterIs_12 : decode prog_1_method_9_code 12 = .ok (.ireturn, 1) := by decide +kernel
theorem d_Sh_casterIs_8 : decode prog_1_method_9_code 8 = .ok (.ifCond .ne 5, 3) := by decide +kernel
def f_Sh_casterIs (σ : Mem) (a1 : Int32) (a2 : Int32) : Option (Int32) :=
  bnd1 (f_To_isCaster σ a1) fun r5 =>
  if r5 = 0 then
    (some (-1))
  else
    (if a2 = 0 then
      (grd (inb a1 17) <|
      some (mI σ 20 (a1.toNatClampNeg)))
    else
    if a2 = 1 then
      (grd (inb a1 17) <|
      some (mI σ 21 (a1.toNatClampNeg)))
    else
    if a2 = 2 then
      (grd (inb a1 17) <|
      some (mI σ 22 (a1.toNatClampNeg)))
    else
    if a2 = 3 then
      (grd (inb a1 17) <|
      some (mI σ 23 (a1.toNatClampNeg)))
    else
    if a2 = 4 then
      (grd (inb a1 17) <|
      some (mI σ 24 (a1.toNatClampNeg)))
    else
    if a2 = 5 then
      (bnd1 (f_To_isStanding σ a1) fun r107 =>
      if r107 = 0 then
        (some 0)
      else
        (some 1))
    else
    (some (-1)))
set_option maxHeartbeats 4000000 in
set_option maxRecDepth 20000 in
theorem c_Sh_casterIs (Z : ZX) {σ : Mem} {a1 : Int32} {a2 : Int32} {r : Int32} (h : f_Sh_casterIs σ a1 a2 = some r) : CI Z 2 m_Sh_casterIs [rf Z 0, .int a1, .int a2] σ r σ := by
  refine Ct.of (by decide +kernel) (Nat.le_of_ble_eq_true rfl) (fun Y => ?_)
  show V (mkB Z) Y m_Sh_casterIs 2 (QP (mkB Z) Y nC 0 0 (fun v t => v = some (.int r) ∧ t = σ)) 0 0 nC σ 0 [(0, rf Z 0), (1, .int a1), (2, .int a2)] []
  unfold f_Sh_casterIs at h
  refine V.aload_n d_Sh_casterIs_0 rfl 0 rfl ?_
  refine V.getR (r := 19) ok_Sh fl_Sh_38 (by decide) (by decide) ly_0 rfl d_Sh_casterIs_1 ?_
  refine V.iload_n d_Sh_casterIs_4 rfl 1 rfl ?_
  obtain ⟨r5, h1, h⟩ := bnd1_e h
  refine V.vI (as := [.int a1]) (st := []) (c_To_isCaster Z h1) k_To_isCaster lk_Sh_163 (by decide) rfl (by decide) ly_19 ok_To.1 rfl (Nat.le_of_ble_eq_true rfl) d_Sh_casterIs_5 ?_
  refine V.if_ne (tgt := 13) d_Sh_casterIs_8 (by decide) (fun hc8 => ?_) (fun hc8 => ?_)
  · replace h := ite_f hc8 h
    refine V.iload_n d_Sh_casterIs_13 rfl 2 rfl ?_
    by_cases hs14_0 : a2 = 0
    · replace h := ite_t hs14_0 h
      refine V.tin (c := 0) (tgt := 52) d_Sh_casterIs_14 hs14_0 (by decide) (by decide) rfl (by decide) ?_
      refine V.aload_n d_Sh_casterIs_52 rfl 0 rfl ?_
      refine V.getR (r := 19) ok_Sh fl_Sh_38 (by decide) (by decide) ly_0 rfl d_Sh_casterIs_53 ?_
      refine V.getR (r := 20) ok_To fl_Sh_166 (by decide) (by decide) ly_19 rfl d_Sh_casterIs_56 ?_
      refine V.iload_n d_Sh_casterIs_59 rfl 1 rfl ?_
      obtain ⟨gq, h⟩ := grd_e h
      refine V.ra (by decide) ly_20 (inb_e gq) rfl d_Sh_casterIs_60 ?_
      cases h
      exact V.iret rfl d_Sh_casterIs_61 ⟨rfl, rfl⟩
    · replace h := ite_f hs14_0 h
      by_cases hs14_1 : a2 = 1
      · replace h := ite_t hs14_1 h
        refine V.tin (c := 1) (tgt := 62) d_Sh_casterIs_14 hs14_1 (by decide) (by decide) rfl (by decide) ?_
        refine V.aload_n d_Sh_casterIs_62 rfl 0 rfl ?_
        refine V.getR (r := 19) ok_Sh fl_Sh_38 (by decide) (by decide) ly_0 rfl d_Sh_casterIs_63 ?_
        refine V.getR (r := 21) ok_To fl_Sh_155 (by decide) (by decide) ly_19 rfl d_Sh_casterIs_66 ?_
        refine V.iload_n d_Sh_casterIs_69 rfl 1 rfl ?_
        obtain ⟨gq, h⟩ := grd_e h
        refine V.ra (by decide) ly_21 (inb_e gq) rfl d_Sh_casterIs_70 ?_
        cases h
        exact V.iret rfl d_Sh_casterIs_71 ⟨rfl, rfl⟩
      · replace h := ite_f hs14_1 h
        by_cases hs14_2 : a2 = 2
        · replace h := ite_t hs14_2 h
          refine V.tin (c := 2) (tgt := 72) d_Sh_casterIs_14 hs14_2 (by decide) (by decide) rfl (by decide) ?_
          refine V.aload_n d_Sh_casterIs_72 rfl 0 rfl ?_
          refine V.getR (r := 19) ok_Sh fl_Sh_38 (by decide) (by decide) ly_0 rfl d_Sh_casterIs_73 ?_
          refine V.getR (r := 22) ok_To fl_Sh_169 (by decide) (by decide) ly_19 rfl d_Sh_casterIs_76 ?_
          refine V.iload_n d_Sh_casterIs_79 rfl 1 rfl ?_
          obtain ⟨gq, h⟩ := grd_e h
          refine V.ra (by decide) ly_22 (inb_e gq) rfl d_Sh_casterIs_80 ?_
          cases h
          exact V.iret rfl d_Sh_casterIs_81 ⟨rfl, rfl⟩
        · replace h := ite_f hs14_2 h
          by_cases hs14_3 : a2 = 3
          · replace h := ite_t hs14_3 h
            refine V.tin (c := 3) (tgt := 82) d_Sh_casterIs_14 hs14_3 (by decide) (by decide) rfl (by decide) ?_
            refine V.aload_n d_Sh_casterIs_82 rfl 0 rfl ?_
            refine V.getR (r := 19) ok_Sh fl_Sh_38 (by decide) (by decide) ly_0 rfl d_Sh_casterIs_83 ?_
            refine V.getR (r := 23) ok_To fl_Sh_172 (by decide) (by decide) ly_19 rfl d_Sh_casterIs_86 ?_
            refine V.iload_n d_Sh_casterIs_89 rfl 1 rfl ?_
            obtain ⟨gq, h⟩ := grd_e h
            refine V.ra (by decide) ly_23 (inb_e gq) rfl d_Sh_casterIs_90 ?_
            cases h
            exact V.iret rfl d_Sh_casterIs_91 ⟨rfl, rfl⟩
          · replace h := ite_f hs14_3 h
            by_cases hs14_4 : a2 = 4
            · replace h := ite_t hs14_4 h
              refine V.tin (c := 4) (tgt := 92) d_Sh_casterIs_14 hs14_4 (by decide) (by decide) rfl (by decide) ?_
              refine V.aload_n d_Sh_casterIs_92 rfl 0 rfl ?_
              refine V.getR (r := 19) ok_Sh fl_Sh_38 (by decide) (by decide) ly_0 rfl d_Sh_casterIs_93 ?_
              refine V.getR (r := 24) ok_To fl_Sh_175 (by decide) (by decide) ly_19 rfl d_Sh_casterIs_96 ?_
              refine V.iload_n d_Sh_casterIs_99 rfl 1 rfl ?_
              obtain ⟨gq, h⟩ := grd_e h
              refine V.ra (by decide) ly_24 (inb_e gq) rfl d_Sh_casterIs_100 ?_
              cases h
              exact V.iret rfl d_Sh_casterIs_101 ⟨rfl, rfl⟩
            · replace h := ite_f hs14_4 h
              by_cases hs14_5 : a2 = 5
              · replace h := ite_t hs14_5 h
                refine V.tin (c := 5) (tgt := 102) d_Sh_casterIs_14 hs14_5 (by decide) (by decide) rfl (by decide) ?_
                refine V.aload_n d_Sh_casterIs_102 rfl 0 rfl ?_
                refine V.getR (r := 19) ok_Sh fl_Sh_38 (by decide) (by decide) ly_0 rfl d_Sh_casterIs_103 ?_
                refine V.iload_n d_Sh_casterIs_106 rfl 1 rfl ?_
                obtain ⟨r107, h1, h⟩ := bnd1_e h
                refine V.vI (as := [.int a1]) (st := []) (c_To_isStanding Z h1) k_To_isStanding lk_Sh_143 (by decide) rfl (by decide) ly_19 ok_To.1 rfl (Nat.le_of_ble_eq_true rfl) d_Sh_casterIs_107 ?_
                refine V.if_eq (tgt := 117) d_Sh_casterIs_110 (by decide) (fun hc110 => ?_) (fun hc110 => ?_)
                · replace h := ite_t hc110 h
                  refine V.iconst (v := 0) d_Sh_casterIs_117 (by decide) ?_
                  cases h
                  exact V.iret rfl d_Sh_casterIs_118 ⟨rfl, rfl⟩
                · replace h := ite_f hc110 h
                  refine V.iconst (v := 1) d_Sh_casterIs_113 (by decide) ?_
                  refine V.goto (tgt := 118) d_Sh_casterIs_114 (by decide) ?_
                  cases h
                  exact V.iret rfl d_Sh_casterIs_118 ⟨rfl, rfl⟩
              · replace h := ite_f hs14_5 h
                refine V.tdef (tgt := 119) d_Sh_casterIs_14 (fun i h1 h2 => ?_) (by decide) ?_
                · rcases (show i = 0 ∨ i = 1 ∨ i = 2 ∨ i = 3 ∨ i = 4 ∨ i = 5 by omega) with rfl | rfl | rfl | rfl | rfl | rfl
                  · exact Or.inl (fun e => hs14_0 (e.trans (by decide)))
                  · exact Or.inl (fun e => hs14_1 (e.trans (by decide)))
                  · exact Or.inl (fun e => hs14_2 (e.trans (by decide)))
                  · exact Or.inl (fun e => hs14_3 (e.trans (by decide)))
                  · exact Or.inl (fun e => hs14_4 (e.trans (by decide)))
                  · exact Or.inl (fun e => hs14_5 (e.trans (by decide)))
                · refine V.iconst (v := (-1)) d_Sh_casterIs_119 (by decide) ?_
                  cases h
                  exact V.iret rfl d_Sh_casterIs_120 ⟨rfl, rfl⟩
  · replace h := ite_t hc8 h
    refine V.iconst (v := (-1)) d_Sh_casterIs_11 (by decide) ?_
    cases h
    exact V.iret rfl d_Sh_casterIs_12 ⟨rfl, rfl⟩
abbrev m_Sh_isHour : MI := (⟨"ShadeTown", "isHour", "(I)Z"⟩, prog_1_method_43_code, 1, (Option.some Jvm.ClassFile.FieldType.boolean))
theorem d_Sh_isHour_0 : decode prog_1_method_43_code 0 = .ok (.iload_n 0, 1) := by decide +kernel
theorem d_Sh_isHour_14 : decode prog_1_method_43_code 14 = .ok (.iconst 0, 1) := by decide +kernel
theorem d_Sh_isHour_15 : decode prog_1_method_43_code 15 = .ok (.ireturn, 1) := by decide +kernel
theorem d_Sh_isHour_4 : decode prog_1_method_43_code 4 = .ok (.iload_n 0, 1) := by decide +kernel
theorem d_Sh_isHour_5 : decode prog_1_method_43_code 5 = .ok (.bipush 24, 2) := by decide +kernel
theorem d_Sh_isHour_10 : decode prog_1_method_43_code 10 = .ok (.iconst 1, 1) := by decide +kernel
theorem d_Sh_isHour_11 : decode prog_1_method_43_code 11 = .ok (.goto 4, 3) := by decide +kernel
theorem d_Sh_isHour_7 : decode prog_1_method_43_code 7 = .ok (.if_icmp .ge 7, 3) := by decide +kernel
theorem d_Sh_isHour_1 : decode prog_1_method_43_code 1 = .ok (.ifCond .lt 13, 3) := by decide +kernel
def f_Sh_isHour (a0 : Int32) : Option (Int32) :=
  if a0 < 0 then
    (some 0)
  else
    (if 24 ≤ a0 then
      (some 0)
    else
      (some 1))
set_option maxHeartbeats 4000000 in
set_option maxRecDepth 20000 in
theorem c_Sh_isHour (Z : ZX) {σ : Mem} {a0 : Int32} {r : Int32} (h : f_Sh_isHour a0 = some r) : CI Z 0 m_Sh_isHour [.int a0] σ r σ := by
  refine Ct.of (by decide +kernel) (Nat.le_of_ble_eq_true rfl) (fun Y => ?_)
  show V (mkB Z) Y m_Sh_isHour 0 (QP (mkB Z) Y nC 0 0 (fun v t => v = some (.int r) ∧ t = σ)) 0 0 nC σ 0 [(0, .int a0)] []
  unfold f_Sh_isHour at h
  refine V.iload_n d_Sh_isHour_0 rfl 0 rfl ?_
  refine V.if_lt (tgt := 14) d_Sh_isHour_1 (by decide) (fun hc1 => ?_) (fun hc1 => ?_)
  · replace h := ite_t hc1 h
    refine V.iconst (v := 0) d_Sh_isHour_14 (by decide) ?_
    cases h
    exact V.zret rfl rfl d_Sh_isHour_15 ⟨rfl, rfl⟩
  · replace h := ite_f hc1 h
    refine V.iload_n d_Sh_isHour_4 rfl 0 rfl ?_
    refine V.bipush (v := 24) d_Sh_isHour_5 (by decide) ?_
    refine V.icmp_ge (tgt := 14) d_Sh_isHour_7 (by decide) (fun hc7 => ?_) (fun hc7 => ?_)
    · replace h := ite_t hc7 h
      refine V.iconst (v := 0) d_Sh_isHour_14 (by decide) ?_
      cases h
      exact V.zret rfl rfl d_Sh_isHour_15 ⟨rfl, rfl⟩
    · replace h := ite_f hc7 h
      refine V.iconst (v := 1) d_Sh_isHour_10 (by decide) ?_
      refine V.goto (tgt := 15) d_Sh_isHour_11 (by decide) ?_
      cases h
      exact V.zret rfl rfl d_Sh_isHour_15 ⟨rfl, rfl⟩
abbrev m_Da_isUp : MI := (⟨"ShadeTown$Day", "isUp", "(I)Z"⟩, prog_3_method_5_code, 2, (Option.some Jvm.ClassFile.FieldType.boolean))
theorem d_Da_isUp_0 : decode prog_3_method_5_code 0 = .ok (.iload_n 1, 1) := by decide +kernel
theorem d_Da_isUp_1 : decode prog_3_method_5_code 1 = .ok (.invokestatic 55, 3) := by decide +kernel
theorem k_Sh_isHour : MOk m_Sh_isHour 1 ∧ Cond.static m_Sh_isHour.1 ∈ tblG := ⟨⟨atG 832 (by decide +kernel) rfl, atG 111 (by decide +kernel) rfl, ⟨by decide, by decide⟩, by decide +kernel, by decide⟩, atG 831 (by decide +kernel) rfl⟩
theorem ln_Da_55 : Cond.methodLinkNest "ShadeTown$Day" 55 ⟨"ShadeTown", "isHour", "(I)Z"⟩ "ShadeTown" ∈ nestW := List.mem_of_getElem? (i := 11) rfl
theorem d_Da_isUp_20 : decode prog_3_method_5_code 20 = .ok (.iconst 0, 1) := by decide +kernel
theorem d_Da_isUp_21 : decode prog_3_method_5_code 21 = .ok (.ireturn, 1) := by decide +kernel
theorem d_Da_isUp_7 : decode prog_3_method_5_code 7 = .ok (.aload_n 0, 1) := by decide +kernel
theorem d_Da_isUp_8 : decode prog_3_method_5_code 8 = .ok (.getfield 9, 3) := by decide +kernel
theorem d_Da_isUp_11 : decode prog_3_method_5_code 11 = .ok (.iload_n 1, 1) := by decide +kernel
theorem d_Da_isUp_12 : decode prog_3_method_5_code 12 = .ok (.baload, 1) := by decide +kernel
theorem d_Da_isUp_16 : decode prog_3_method_5_code 16 = .ok (.iconst 1, 1) := by decide +kernel
theorem d_Da_isUp_17 : decode prog_3_method_5_code 17 = .ok (.goto 4, 3) := by decide +kernel
theorem d_Da_isUp_13 : decode prog_3_method_5_code 13 = .ok (.ifCond .eq 7, 3) := by decide +kernel
theorem d_Da_isUp_4 : decode prog_3_method_5_code 4 = .ok (.ifCond .eq 16, 3) := by decide +kernel
def f_Da_isUp (σ : Mem) (a1 : Int32) : Option (Int32) :=
  bnd1 (f_Sh_isHour a1) fun r1 =>
  if r1 = 0 then
    (some 0)
  else
    (grd (inb a1 24) <|
    if (mI σ 34 (a1.toNatClampNeg)) = 0 then
      (some 0)
    else
      (some 1))
set_option maxHeartbeats 4000000 in
set_option maxRecDepth 20000 in
theorem c_Da_isUp (Z : ZX) {σ : Mem} {a1 : Int32} {r : Int32} (h : f_Da_isUp σ a1 = some r) : CI Z 1 m_Da_isUp [rf Z 33, .int a1] σ r σ := by
  refine Ct.of (by decide +kernel) (Nat.le_of_ble_eq_true rfl) (fun Y => ?_)
  show V (mkB Z) Y m_Da_isUp 1 (QP (mkB Z) Y nC 0 0 (fun v t => v = some (.int r) ∧ t = σ)) 0 0 nC σ 0 [(0, rf Z 33), (1, .int a1)] []
  unfold f_Da_isUp at h
  refine V.iload_n d_Da_isUp_0 rfl 1 rfl ?_
  obtain ⟨r1, h1, h⟩ := bnd1_e h
  refine V.tI (as := [.int a1]) (st := []) (c_Sh_isHour Z h1) k_Sh_isHour ln_Da_55 (by decide) rfl rfl (Nat.le_of_ble_eq_true rfl) d_Da_isUp_1 ?_
  refine V.if_eq (tgt := 20) d_Da_isUp_4 (by decide) (fun hc4 => ?_) (fun hc4 => ?_)
  · replace h := ite_t hc4 h
    refine V.iconst (v := 0) d_Da_isUp_20 (by decide) ?_
    cases h
    exact V.zret rfl rfl d_Da_isUp_21 ⟨rfl, rfl⟩
  · replace h := ite_f hc4 h
    refine V.aload_n d_Da_isUp_7 rfl 0 rfl ?_
    refine V.getR (r := 34) ok_Da fl_Da_9 (by decide) (by decide) ly_33 rfl d_Da_isUp_8 ?_
    refine V.iload_n d_Da_isUp_11 rfl 1 rfl ?_
    obtain ⟨gq, h⟩ := grd_e h
    refine V.rz (by decide) ly_34 (inb_e gq) rfl d_Da_isUp_12 ?_
    refine V.if_eq (tgt := 20) d_Da_isUp_13 (by decide) (fun hc13 => ?_) (fun hc13 => ?_)
    · replace h := ite_t hc13 h
      refine V.iconst (v := 0) d_Da_isUp_20 (by decide) ?_
      cases h
      exact V.zret rfl rfl d_Da_isUp_21 ⟨rfl, rfl⟩
    · replace h := ite_f hc13 h
      refine V.iconst (v := 1) d_Da_isUp_16 (by decide) ?_
      refine V.goto (tgt := 21) d_Da_isUp_17 (by decide) ?_
      cases h
      exact V.zret rfl rfl d_Da_isUp_21 ⟨rfl, rfl⟩
abbrev m_Da_eastAt : MI := (⟨"ShadeTown$Day", "eastAt", "(I)I"⟩, prog_3_method_6_code, 2, (Option.some Jvm.ClassFile.FieldType.int))
theorem d_Da_eastAt_0 : decode prog_3_method_6_code 0 = .ok (.iload_n 1, 1) := by decide +kernel
theorem d_Da_eastAt_1 : decode prog_3_method_6_code 1 = .ok (.invokestatic 55, 3) := by decide +kernel
theorem d_Da_eastAt_16 : decode prog_3_method_6_code 16 = .ok (.iconst 0, 1) := by decide +kernel
theorem d_Da_eastAt_17 : decode prog_3_method_6_code 17 = .ok (.ireturn, 1) := by decide +kernel
theorem d_Da_eastAt_7 : decode prog_3_method_6_code 7 = .ok (.aload_n 0, 1) := by decide +kernel
theorem d_Da_eastAt_8 : decode prog_3_method_6_code 8 = .ok (.getfield 15, 3) := by decide +kernel
theorem d_Da_eastAt_11 : decode prog_3_method_6_code 11 = .ok (.iload_n 1, 1) := by decide +kernel
theorem d_Da_eastAt_12 : decode prog_3_method_6_code 12 = .ok (.iaload, 1) := by decide +kernel
theorem d_Da_eastAt_13 : decode prog_3_method_6_code 13 = .ok (.goto 4, 3) := by decide +kernel
theorem d_Da_eastAt_4 : decode prog_3_method_6_code 4 = .ok (.ifCond .eq 12, 3) := by decide +kernel
def f_Da_eastAt (σ : Mem) (a1 : Int32) : Option (Int32) :=
  bnd1 (f_Sh_isHour a1) fun r1 =>
  if r1 = 0 then
    (some 0)
  else
    (grd (inb a1 24) <|
    some (mI σ 35 (a1.toNatClampNeg)))
set_option maxHeartbeats 4000000 in
set_option maxRecDepth 20000 in
theorem c_Da_eastAt (Z : ZX) {σ : Mem} {a1 : Int32} {r : Int32} (h : f_Da_eastAt σ a1 = some r) : CI Z 1 m_Da_eastAt [rf Z 33, .int a1] σ r σ := by
  refine Ct.of (by decide +kernel) (Nat.le_of_ble_eq_true rfl) (fun Y => ?_)
  show V (mkB Z) Y m_Da_eastAt 1 (QP (mkB Z) Y nC 0 0 (fun v t => v = some (.int r) ∧ t = σ)) 0 0 nC σ 0 [(0, rf Z 33), (1, .int a1)] []
  unfold f_Da_eastAt at h
  refine V.iload_n d_Da_eastAt_0 rfl 1 rfl ?_
  obtain ⟨r1, h1, h⟩ := bnd1_e h
  refine V.tI (as := [.int a1]) (st := []) (c_Sh_isHour Z h1) k_Sh_isHour ln_Da_55 (by decide) rfl rfl (Nat.le_of_ble_eq_true rfl) d_Da_eastAt_1 ?_
  refine V.if_eq (tgt := 16) d_Da_eastAt_4 (by decide) (fun hc4 => ?_) (fun hc4 => ?_)
  · replace h := ite_t hc4 h
    refine V.iconst (v := 0) d_Da_eastAt_16 (by decide) ?_
    cases h
    exact V.iret rfl d_Da_eastAt_17 ⟨rfl, rfl⟩
  · replace h := ite_f hc4 h
    refine V.aload_n d_Da_eastAt_7 rfl 0 rfl ?_
    refine V.getR (r := 35) ok_Da fl_Da_15 (by decide) (by decide) ly_33 rfl d_Da_eastAt_8 ?_
    refine V.iload_n d_Da_eastAt_11 rfl 1 rfl ?_
    obtain ⟨gq, h⟩ := grd_e h
    refine V.ra (by decide) ly_35 (inb_e gq) rfl d_Da_eastAt_12 ?_
    refine V.goto (tgt := 17) d_Da_eastAt_13 (by decide) ?_
    cases h
    exact V.iret rfl d_Da_eastAt_17 ⟨rfl, rfl⟩
abbrev m_Da_northAt : MI := (⟨"ShadeTown$Day", "northAt", "(I)I"⟩, prog_3_method_7_code, 2, (Option.some Jvm.ClassFile.FieldType.int))
theorem d_Da_northAt_0 : decode prog_3_method_7_code 0 = .ok (.iload_n 1, 1) := by decide +kernel
theorem d_Da_northAt_1 : decode prog_3_method_7_code 1 = .ok (.invokestatic 55, 3) := by decide +kernel
theorem d_Da_northAt_16 : decode prog_3_method_7_code 16 = .ok (.iconst 0, 1) := by decide +kernel
theorem d_Da_northAt_17 : decode prog_3_method_7_code 17 = .ok (.ireturn, 1) := by decide +kernel
theorem d_Da_northAt_7 : decode prog_3_method_7_code 7 = .ok (.aload_n 0, 1) := by decide +kernel
theorem d_Da_northAt_8 : decode prog_3_method_7_code 8 = .ok (.getfield 19, 3) := by decide +kernel
theorem d_Da_northAt_11 : decode prog_3_method_7_code 11 = .ok (.iload_n 1, 1) := by decide +kernel
theorem d_Da_northAt_12 : decode prog_3_method_7_code 12 = .ok (.iaload, 1) := by decide +kernel
theorem d_Da_northAt_13 : decode prog_3_method_7_code 13 = .ok (.goto 4, 3) := by decide +kernel
theorem d_Da_northAt_4 : decode prog_3_method_7_code 4 = .ok (.ifCond .eq 12, 3) := by decide +kernel
def f_Da_northAt (σ : Mem) (a1 : Int32) : Option (Int32) :=
  bnd1 (f_Sh_isHour a1) fun r1 =>
  if r1 = 0 then
    (some 0)
  else
    (grd (inb a1 24) <|
    some (mI σ 36 (a1.toNatClampNeg)))
set_option maxHeartbeats 4000000 in
set_option maxRecDepth 20000 in
theorem c_Da_northAt (Z : ZX) {σ : Mem} {a1 : Int32} {r : Int32} (h : f_Da_northAt σ a1 = some r) : CI Z 1 m_Da_northAt [rf Z 33, .int a1] σ r σ := by
  refine Ct.of (by decide +kernel) (Nat.le_of_ble_eq_true rfl) (fun Y => ?_)
  show V (mkB Z) Y m_Da_northAt 1 (QP (mkB Z) Y nC 0 0 (fun v t => v = some (.int r) ∧ t = σ)) 0 0 nC σ 0 [(0, rf Z 33), (1, .int a1)] []
  unfold f_Da_northAt at h
  refine V.iload_n d_Da_northAt_0 rfl 1 rfl ?_
  obtain ⟨r1, h1, h⟩ := bnd1_e h
  refine V.tI (as := [.int a1]) (st := []) (c_Sh_isHour Z h1) k_Sh_isHour ln_Da_55 (by decide) rfl rfl (Nat.le_of_ble_eq_true rfl) d_Da_northAt_1 ?_
  refine V.if_eq (tgt := 16) d_Da_northAt_4 (by decide) (fun hc4 => ?_) (fun hc4 => ?_)
  · replace h := ite_t hc4 h
    refine V.iconst (v := 0) d_Da_northAt_16 (by decide) ?_
    cases h
    exact V.iret rfl d_Da_northAt_17 ⟨rfl, rfl⟩
  · replace h := ite_f hc4 h
    refine V.aload_n d_Da_northAt_7 rfl 0 rfl ?_
    refine V.getR (r := 36) ok_Da fl_Da_19 (by decide) (by decide) ly_33 rfl d_Da_northAt_8 ?_
    refine V.iload_n d_Da_northAt_11 rfl 1 rfl ?_
    obtain ⟨gq, h⟩ := grd_e h
    refine V.ra (by decide) ly_36 (inb_e gq) rfl d_Da_northAt_12 ?_
    refine V.goto (tgt := 17) d_Da_northAt_13 (by decide) ?_
    cases h
    exact V.iret rfl d_Da_northAt_17 ⟨rfl, rfl⟩
abbrev m_Da_cloudAt : MI := (⟨"ShadeTown$Day", "cloudAt", "(I)I"⟩, prog_3_method_8_code, 2, (Option.some Jvm.ClassFile.FieldType.int))
theorem d_Da_cloudAt_0 : decode prog_3_method_8_code 0 = .ok (.iload_n 1, 1) := by decide +kernel
theorem d_Da_cloudAt_1 : decode prog_3_method_8_code 1 = .ok (.invokestatic 55, 3) := by decide +kernel
theorem d_Da_cloudAt_16 : decode prog_3_method_8_code 16 = .ok (.iconst 0, 1) := by decide +kernel
theorem d_Da_cloudAt_17 : decode prog_3_method_8_code 17 = .ok (.ireturn, 1) := by decide +kernel
theorem d_Da_cloudAt_7 : decode prog_3_method_8_code 7 = .ok (.aload_n 0, 1) := by decide +kernel
theorem d_Da_cloudAt_8 : decode prog_3_method_8_code 8 = .ok (.getfield 22, 3) := by decide +kernel
theorem d_Da_cloudAt_11 : decode prog_3_method_8_code 11 = .ok (.iload_n 1, 1) := by decide +kernel
theorem d_Da_cloudAt_12 : decode prog_3_method_8_code 12 = .ok (.iaload, 1) := by decide +kernel
theorem d_Da_cloudAt_13 : decode prog_3_method_8_code 13 = .ok (.goto 4, 3) := by decide +kernel
theorem d_Da_cloudAt_4 : decode prog_3_method_8_code 4 = .ok (.ifCond .eq 12, 3) := by decide +kernel
def f_Da_cloudAt (σ : Mem) (a1 : Int32) : Option (Int32) :=
  bnd1 (f_Sh_isHour a1) fun r1 =>
  if r1 = 0 then
    (some 0)
  else
    (grd (inb a1 24) <|
    some (mI σ 37 (a1.toNatClampNeg)))
set_option maxHeartbeats 4000000 in
set_option maxRecDepth 20000 in
theorem c_Da_cloudAt (Z : ZX) {σ : Mem} {a1 : Int32} {r : Int32} (h : f_Da_cloudAt σ a1 = some r) : CI Z 1 m_Da_cloudAt [rf Z 33, .int a1] σ r σ := by
  refine Ct.of (by decide +kernel) (Nat.le_of_ble_eq_true rfl) (fun Y => ?_)
  show V (mkB Z) Y m_Da_cloudAt 1 (QP (mkB Z) Y nC 0 0 (fun v t => v = some (.int r) ∧ t = σ)) 0 0 nC σ 0 [(0, rf Z 33), (1, .int a1)] []
  unfold f_Da_cloudAt at h
  refine V.iload_n d_Da_cloudAt_0 rfl 1 rfl ?_
  obtain ⟨r1, h1, h⟩ := bnd1_e h
  refine V.tI (as := [.int a1]) (st := []) (c_Sh_isHour Z h1) k_Sh_isHour ln_Da_55 (by decide) rfl rfl (Nat.le_of_ble_eq_true rfl) d_Da_cloudAt_1 ?_
  refine V.if_eq (tgt := 16) d_Da_cloudAt_4 (by decide) (fun hc4 => ?_) (fun hc4 => ?_)
  · replace h := ite_t hc4 h
    refine V.iconst (v := 0) d_Da_cloudAt_16 (by decide) ?_
    cases h
    exact V.iret rfl d_Da_cloudAt_17 ⟨rfl, rfl⟩
  · replace h := ite_f hc4 h
    refine V.aload_n d_Da_cloudAt_7 rfl 0 rfl ?_
    refine V.getR (r := 37) ok_Da fl_Da_22 (by decide) (by decide) ly_33 rfl d_Da_cloudAt_8 ?_
    refine V.iload_n d_Da_cloudAt_11 rfl 1 rfl ?_
    obtain ⟨gq, h⟩ := grd_e h
    refine V.ra (by decide) ly_37 (inb_e gq) rfl d_Da_cloudAt_12 ?_
    refine V.goto (tgt := 17) d_Da_cloudAt_13 (by decide) ?_
    cases h
    exact V.iret rfl d_Da_cloudAt_17 ⟨rfl, rfl⟩
abbrev m_Sh_sun : MI := (⟨"ShadeTown", "sun", "(II)I"⟩, prog_1_method_10_code, 4, (Option.some Jvm.ClassFile.FieldType.int))
theorem d_Sh_sun_0 : decode prog_1_method_10_code 0 = .ok (.iload_n 1, 1) := by decide +kernel
theorem d_Sh_sun_1 : decode prog_1_method_10_code 1 = .ok (.invokestatic 178, 3) := by decide +kernel
theorem lk_Sh_178 : Cond.methodLink "ShadeTown" 178 ⟨"ShadeTown", "isHour", "(I)Z"⟩ ∈ tblG := atG 830 (by decide +kernel) rfl
theorem d_Sh_sun_10 : decode prog_1_method_10_code 10 = .ok (.aload_n 0, 1) := by decide +kernel
theorem d_Sh_sun_11 : decode prog_1_method_10_code 11 = .ok (.invokevirtual 181, 3) := by decide +kernel
theorem d_Sh_sun_14 : decode prog_1_method_10_code 14 = .ok (.astore_n 3, 1) := by decide +kernel
theorem d_Sh_sun_15 : decode prog_1_method_10_code 15 = .ok (.iload_n 2, 1) := by decide +kernel
theorem d_Sh_sun_48 : decode prog_1_method_10_code 48 = .ok (.aload_n 3, 1) := by decide +kernel
theorem d_Sh_sun_49 : decode prog_1_method_10_code 49 = .ok (.iload_n 1, 1) := by decide +kernel
theorem d_Sh_sun_50 : decode prog_1_method_10_code 50 = .ok (.invokevirtual 185, 3) := by decide +kernel
theorem k_Da_isUp : MOk m_Da_isUp 1 ∧ IOk m_Da_isUp := ⟨⟨atG 836 (by decide +kernel) rfl, atG 116 (by decide +kernel) rfl, ⟨by decide, by decide⟩, by decide +kernel, by decide⟩, atG 834 (by decide +kernel) rfl, atG 835 (by decide +kernel) rfl⟩
theorem lk_Sh_185 : Cond.methodLink "ShadeTown" 185 ⟨"ShadeTown$Day", "isUp", "(I)Z"⟩ ∈ tblG := atG 833 (by decide +kernel) rfl
theorem d_Sh_sun_60 : decode prog_1_method_10_code 60 = .ok (.iconst 0, 1) := by decide +kernel
theorem d_Sh_sun_61 : decode prog_1_method_10_code 61 = .ok (.ireturn, 1) := by decide +kernel
theorem d_Sh_sun_56 : decode prog_1_method_10_code 56 = .ok (.iconst 1, 1) := by decide +kernel
theorem d_Sh_sun_57 : decode prog_1_method_10_code 57 = .ok (.goto 4, 3) := by decide +kernel
theorem d_Sh_sun_53 : decode prog_1_method_10_code 53 = .ok (.ifCond .eq 7, 3) := by decide +kernel
theorem d_Sh_sun_62 : decode prog_1_method_10_code 62 = .ok (.aload_n 3, 1) := by decide +kernel
theorem d_Sh_sun_63 : decode prog_1_method_10_code 63 = .ok (.iload_n 1, 1) := by decide +kernel
theorem d_Sh_sun_64 : decode prog_1_method_10_code 64 = .ok (.invokevirtual 188, 3) := by decide +kernel
theorem k_Da_eastAt : MOk m_Da_eastAt 1 ∧ IOk m_Da_eastAt := ⟨⟨atG 841 (by decide +kernel) rfl, atG 116 (by decide +kernel) rfl, ⟨by decide, by decide⟩, by decide +kernel, by decide⟩, atG 839 (by decide +kernel) rfl, atG 840 (by decide +kernel) rfl⟩
theorem lk_Sh_188 : Cond.methodLink "ShadeTown" 188 ⟨"ShadeTown$Day", "eastAt", "(I)I"⟩ ∈ tblG := atG 838 (by decide +kernel) rfl
theorem d_Sh_sun_67 : decode prog_1_method_10_code 67 = .ok (.ireturn, 1) := by decide +kernel
theorem d_Sh_sun_68 : decode prog_1_method_10_code 68 = .ok (.aload_n 3, 1) := by decide +kernel
theorem d_Sh_sun_69 : decode prog_1_method_10_code 69 = .ok (.iload_n 1, 1) := by decide +kernel
theorem d_Sh_sun_70 : decode prog_1_method_10_code 70 = .ok (.invokevirtual 191, 3) := by decide +kernel
theorem k_Da_northAt : MOk m_Da_northAt 1 ∧ IOk m_Da_northAt := ⟨⟨atG 845 (by decide +kernel) rfl, atG 116 (by decide +kernel) rfl, ⟨by decide, by decide⟩, by decide +kernel, by decide⟩, atG 843 (by decide +kernel) rfl, atG 844 (by decide +kernel) rfl⟩
theorem lk_Sh_191 : Cond.methodLink "ShadeTown" 191 ⟨"ShadeTown$Day", "northAt", "(I)I"⟩ ∈ tblG := atG 842 (by decide +kernel) rfl
theorem d_Sh_sun_73 : decode prog_1_method_10_code 73 = .ok (.ireturn, 1) := by decide +kernel
theorem d_Sh_sun_74 : decode prog_1_method_10_code 74 = .ok (.aload_n 3, 1) := by decide +kernel
theorem d_Sh_sun_75 : decode prog_1_method_10_code 75 = .ok (.iload_n 1, 1) := by decide +kernel
theorem d_Sh_sun_76 : decode prog_1_method_10_code 76 = .ok (.invokevirtual 194, 3) := by decide +kernel
theorem k_Da_cloudAt : MOk m_Da_cloudAt 1 ∧ IOk m_Da_cloudAt := ⟨⟨atG 849 (by decide +kernel) rfl, atG 116 (by decide +kernel) rfl, ⟨by decide, by decide⟩, by decide +kernel, by decide⟩, atG 847 (by decide +kernel) rfl, atG 848 (by decide +kernel) rfl⟩
theorem lk_Sh_194 : Cond.methodLink "ShadeTown" 194 ⟨"ShadeTown$Day", "cloudAt", "(I)I"⟩ ∈ tblG := atG 846 (by decide +kernel) rfl
theorem d_Sh_sun_79 : decode prog_1_method_10_code 79 = .ok (.ireturn, 1) := by decide +kernel
theorem d_Sh_sun_80 : decode prog_1_method_10_code 80 = .ok (.bipush (-100), 2) := by decide +kernel
theorem d_Sh_sun_82 : decode prog_1_method_10_code 82 = .ok (.ireturn, 1) := by decide +kernel
theorem d_Sh_sun_16 : decode prog_1_method_10_code 16 = .ok (.tableswitch 64 0 3 #[32, 46, 52, 58], 32) := by decide +kernel
theorem d_Sh_sun_7 : decode prog_1_method_10_code 7 = .ok (.bipush (-100), 2) := by decide +kernel
theorem d_Sh_sun_9 : decode prog_1_method_10_code 9 = .ok (.ireturn, 1) := by decide +kernel
theorem d_Sh_sun_4 : decode prog_1_method_10_code 4 = .ok (.ifCond .ne 6, 3) := by decide +kernel
def f_Sh_sun (N : Nat) (σ : Mem) (a1 : Int32) (a2 : Int32) : Option (Int32 × Mem) :=
  bnd1 (f_Sh_isHour a1) fun r1 =>
  if r1 = 0 then
    (some ((-100), σ))
  else
    (bnd1 (f_Sh_today N σ) fun σ11 =>
    if a2 = 0 then
      (bnd1 (f_Da_isUp σ11 a1) fun r50 =>
      if r50 = 0 then
        (some (0, σ11))
      else
        (some (1, σ11)))
    else
    if a2 = 1 then
      (bnd1 (f_Da_eastAt σ11 a1) fun r64 =>
      some (r64, σ11))
    else
    if a2 = 2 then
      (bnd1 (f_Da_northAt σ11 a1) fun r70 =>
      some (r70, σ11))
    else
    if a2 = 3 then
      (bnd1 (f_Da_cloudAt σ11 a1) fun r76 =>
      some (r76, σ11))
    else
    (some ((-100), σ11)))
set_option maxHeartbeats 4000000 in
set_option maxRecDepth 20000 in
theorem c_Sh_sun (Z : ZX) {N : Nat} {σ : Mem} {a1 : Int32} {a2 : Int32} {r : Int32} {σ' : Mem} (h : f_Sh_sun N σ a1 a2 = some (r, σ')) : CI Z 6 m_Sh_sun [rf Z 0, .int a1, .int a2] σ r σ' := by
  refine Ct.of (by decide +kernel) (Nat.le_of_ble_eq_true rfl) (fun Y => ?_)
  show V (mkB Z) Y m_Sh_sun 6 (QP (mkB Z) Y nC 0 0 (fun v t => v = some (.int r) ∧ t = σ')) 0 0 nC σ 0 [(0, rf Z 0), (1, .int a1), (2, .int a2)] []
  unfold f_Sh_sun at h
  refine V.iload_n d_Sh_sun_0 rfl 1 rfl ?_
  obtain ⟨r1, h1, h⟩ := bnd1_e h
  refine V.sI (as := [.int a1]) (st := []) (c_Sh_isHour Z h1) k_Sh_isHour lk_Sh_178 (by decide) rfl rfl (Nat.le_of_ble_eq_true rfl) d_Sh_sun_1 ?_
  refine V.if_ne (tgt := 10) d_Sh_sun_4 (by decide) (fun hc4 => ?_) (fun hc4 => ?_)
  · replace h := ite_f hc4 h
    refine V.aload_n d_Sh_sun_10 rfl 0 rfl ?_
    obtain ⟨σ11, h1, h⟩ := bnd1_e h
    refine V.vA (as := []) (st := []) (c_Sh_today Z h1) k_Sh_today lk_Sh_181 (by decide) rfl (by decide) ly_0 ok_Sh.1 rfl (Nat.le_of_ble_eq_true rfl) d_Sh_sun_11 ?_
    refine V.astore_n (lv' := [(3, rf Z 33), (0, rf Z 0), (1, .int a1), (2, .int a2)]) d_Sh_sun_14 rfl (by decide) rfl ?_
    refine V.iload_n d_Sh_sun_15 rfl 3 rfl ?_
    by_cases hs16_0 : a2 = 0
    · replace h := ite_t hs16_0 h
      refine V.tin (c := 0) (tgt := 48) d_Sh_sun_16 hs16_0 (by decide) (by decide) rfl (by decide) ?_
      refine V.aload_n d_Sh_sun_48 rfl 0 rfl ?_
      refine V.iload_n d_Sh_sun_49 rfl 2 rfl ?_
      obtain ⟨r50, h1, h⟩ := bnd1_e h
      refine V.vI (as := [.int a1]) (st := []) (c_Da_isUp Z h1) k_Da_isUp lk_Sh_185 (by decide) rfl (by decide) ly_33 ok_Da.1 rfl (Nat.le_of_ble_eq_true rfl) d_Sh_sun_50 ?_
      refine V.if_eq (tgt := 60) d_Sh_sun_53 (by decide) (fun hc53 => ?_) (fun hc53 => ?_)
      · replace h := ite_t hc53 h
        refine V.iconst (v := 0) d_Sh_sun_60 (by decide) ?_
        cases h
        exact V.iret rfl d_Sh_sun_61 ⟨rfl, rfl⟩
      · replace h := ite_f hc53 h
        refine V.iconst (v := 1) d_Sh_sun_56 (by decide) ?_
        refine V.goto (tgt := 61) d_Sh_sun_57 (by decide) ?_
        cases h
        exact V.iret rfl d_Sh_sun_61 ⟨rfl, rfl⟩
    · replace h := ite_f hs16_0 h
      by_cases hs16_1 : a2 = 1
      · replace h := ite_t hs16_1 h
        refine V.tin (c := 1) (tgt := 62) d_Sh_sun_16 hs16_1 (by decide) (by decide) rfl (by decide) ?_
        refine V.aload_n d_Sh_sun_62 rfl 0 rfl ?_
        refine V.iload_n d_Sh_sun_63 rfl 2 rfl ?_
        obtain ⟨r64, h1, h⟩ := bnd1_e h
        refine V.vI (as := [.int a1]) (st := []) (c_Da_eastAt Z h1) k_Da_eastAt lk_Sh_188 (by decide) rfl (by decide) ly_33 ok_Da.1 rfl (Nat.le_of_ble_eq_true rfl) d_Sh_sun_64 ?_
        cases h
        exact V.iret rfl d_Sh_sun_67 ⟨rfl, rfl⟩
      · replace h := ite_f hs16_1 h
        by_cases hs16_2 : a2 = 2
        · replace h := ite_t hs16_2 h
          refine V.tin (c := 2) (tgt := 68) d_Sh_sun_16 hs16_2 (by decide) (by decide) rfl (by decide) ?_
          refine V.aload_n d_Sh_sun_68 rfl 0 rfl ?_
          refine V.iload_n d_Sh_sun_69 rfl 2 rfl ?_
          obtain ⟨r70, h1, h⟩ := bnd1_e h
          refine V.vI (as := [.int a1]) (st := []) (c_Da_northAt Z h1) k_Da_northAt lk_Sh_191 (by decide) rfl (by decide) ly_33 ok_Da.1 rfl (Nat.le_of_ble_eq_true rfl) d_Sh_sun_70 ?_
          cases h
          exact V.iret rfl d_Sh_sun_73 ⟨rfl, rfl⟩
        · replace h := ite_f hs16_2 h
          by_cases hs16_3 : a2 = 3
          · replace h := ite_t hs16_3 h
            refine V.tin (c := 3) (tgt := 74) d_Sh_sun_16 hs16_3 (by decide) (by decide) rfl (by decide) ?_
            refine V.aload_n d_Sh_sun_74 rfl 0 rfl ?_
            refine V.iload_n d_Sh_sun_75 rfl 2 rfl ?_
            obtain ⟨r76, h1, h⟩ := bnd1_e h
            refine V.vI (as := [.int a1]) (st := []) (c_Da_cloudAt Z h1) k_Da_cloudAt lk_Sh_194 (by decide) rfl (by decide) ly_33 ok_Da.1 rfl (Nat.le_of_ble_eq_true rfl) d_Sh_sun_76 ?_
            cases h
            exact V.iret rfl d_Sh_sun_79 ⟨rfl, rfl⟩
          · replace h := ite_f hs16_3 h
            refine V.tdef (tgt := 80) d_Sh_sun_16 (fun i h1 h2 => ?_) (by decide) ?_
            · rcases (show i = 0 ∨ i = 1 ∨ i = 2 ∨ i = 3 by omega) with rfl | rfl | rfl | rfl
              · exact Or.inl (fun e => hs16_0 (e.trans (by decide)))
              · exact Or.inl (fun e => hs16_1 (e.trans (by decide)))
              · exact Or.inl (fun e => hs16_2 (e.trans (by decide)))
              · exact Or.inl (fun e => hs16_3 (e.trans (by decide)))
            · refine V.bipush (v := (-100)) d_Sh_sun_80 (by decide) ?_
              cases h
              exact V.iret rfl d_Sh_sun_82 ⟨rfl, rfl⟩
  · replace h := ite_t hc4 h
    refine V.bipush (v := (-100)) d_Sh_sun_7 (by decide) ?_
    cases h
    exact V.iret rfl d_Sh_sun_9 ⟨rfl, rfl⟩
abbrev m_Da_whoCasts : MI := (⟨"ShadeTown$Day", "whoCasts", "(II)I"⟩, prog_3_method_11_code, 3, (Option.some Jvm.ClassFile.FieldType.int))
theorem d_Da_whoCasts_0 : decode prog_3_method_11_code 0 = .ok (.aload_n 0, 1) := by decide +kernel
theorem d_Da_whoCasts_1 : decode prog_3_method_11_code 1 = .ok (.iload_n 2, 1) := by decide +kernel
theorem d_Da_whoCasts_2 : decode prog_3_method_11_code 2 = .ok (.invokevirtual 59, 3) := by decide +kernel
theorem lk_Da_59 : Cond.methodLink "ShadeTown$Day" 59 ⟨"ShadeTown$Day", "isFree", "(I)Z"⟩ ∈ tblG := atG 858 (by decide +kernel) rfl
theorem d_Da_whoCasts_30 : decode prog_3_method_11_code 30 = .ok (.iconst 0, 1) := by decide +kernel
theorem d_Da_whoCasts_31 : decode prog_3_method_11_code 31 = .ok (.ireturn, 1) := by decide +kernel
theorem d_Da_whoCasts_8 : decode prog_3_method_11_code 8 = .ok (.iload_n 1, 1) := by decide +kernel
theorem d_Da_whoCasts_9 : decode prog_3_method_11_code 9 = .ok (.invokestatic 55, 3) := by decide +kernel
theorem d_Da_whoCasts_15 : decode prog_3_method_11_code 15 = .ok (.aload_n 0, 1) := by decide +kernel
theorem d_Da_whoCasts_16 : decode prog_3_method_11_code 16 = .ok (.getfield 29, 3) := by decide +kernel
theorem d_Da_whoCasts_19 : decode prog_3_method_11_code 19 = .ok (.iload_n 1, 1) := by decide +kernel
theorem d_Da_whoCasts_20 : decode prog_3_method_11_code 20 = .ok (.sipush 144, 3) := by decide +kernel
theorem d_Da_whoCasts_23 : decode prog_3_method_11_code 23 = .ok (.imul, 1) := by decide +kernel
theorem d_Da_whoCasts_24 : decode prog_3_method_11_code 24 = .ok (.iload_n 2, 1) := by decide +kernel
theorem d_Da_whoCasts_25 : decode prog_3_method_11_code 25 = .ok (.iadd, 1) := by decide +kernel
theorem d_Da_whoCasts_26 : decode prog_3_method_11_code 26 = .ok (.iaload, 1) := by decide +kernel
theorem d_Da_whoCasts_27 : decode prog_3_method_11_code 27 = .ok (.goto 4, 3) := by decide +kernel
theorem d_Da_whoCasts_12 : decode prog_3_method_11_code 12 = .ok (.ifCond .eq 18, 3) := by decide +kernel
theorem d_Da_whoCasts_5 : decode prog_3_method_11_code 5 = .ok (.ifCond .eq 25, 3) := by decide +kernel
def f_Da_whoCasts (σ : Mem) (a1 : Int32) (a2 : Int32) : Option (Int32) :=
  bnd1 (f_Da_isFree σ a2) fun r2 =>
  if r2 = 0 then
    (some 0)
  else
    (bnd1 (f_Sh_isHour a1) fun r9 =>
    if r9 = 0 then
      (some 0)
    else
      (grd (inb ((a1 * 144) + a2) 3456) <|
      some (mI σ 38 (((a1 * 144) + a2).toNatClampNeg))))
set_option maxHeartbeats 4000000 in
set_option maxRecDepth 20000 in
theorem c_Da_whoCasts (Z : ZX) {σ : Mem} {a1 : Int32} {a2 : Int32} {r : Int32} (h : f_Da_whoCasts σ a1 a2 = some r) : CI Z 1 m_Da_whoCasts [rf Z 33, .int a1, .int a2] σ r σ := by
  refine Ct.of (by decide +kernel) (Nat.le_of_ble_eq_true rfl) (fun Y => ?_)
  show V (mkB Z) Y m_Da_whoCasts 1 (QP (mkB Z) Y nC 0 0 (fun v t => v = some (.int r) ∧ t = σ)) 0 0 nC σ 0 [(0, rf Z 33), (1, .int a1), (2, .int a2)] []
  unfold f_Da_whoCasts at h
  refine V.aload_n d_Da_whoCasts_0 rfl 0 rfl ?_
  refine V.iload_n d_Da_whoCasts_1 rfl 2 rfl ?_
  obtain ⟨r2, h1, h⟩ := bnd1_e h
  refine V.vI (as := [.int a2]) (st := []) (c_Da_isFree Z h1) k_Da_isFree lk_Da_59 (by decide) rfl (by decide) ly_33 ok_Da.1 rfl (Nat.le_of_ble_eq_true rfl) d_Da_whoCasts_2 ?_
  refine V.if_eq (tgt := 30) d_Da_whoCasts_5 (by decide) (fun hc5 => ?_) (fun hc5 => ?_)
  · replace h := ite_t hc5 h
    refine V.iconst (v := 0) d_Da_whoCasts_30 (by decide) ?_
    cases h
    exact V.iret rfl d_Da_whoCasts_31 ⟨rfl, rfl⟩
  · replace h := ite_f hc5 h
    refine V.iload_n d_Da_whoCasts_8 rfl 1 rfl ?_
    obtain ⟨r9, h1, h⟩ := bnd1_e h
    refine V.tI (as := [.int a1]) (st := []) (c_Sh_isHour Z h1) k_Sh_isHour ln_Da_55 (by decide) rfl rfl (Nat.le_of_ble_eq_true rfl) d_Da_whoCasts_9 ?_
    refine V.if_eq (tgt := 30) d_Da_whoCasts_12 (by decide) (fun hc12 => ?_) (fun hc12 => ?_)
    · replace h := ite_t hc12 h
      refine V.iconst (v := 0) d_Da_whoCasts_30 (by decide) ?_
      cases h
      exact V.iret rfl d_Da_whoCasts_31 ⟨rfl, rfl⟩
    · replace h := ite_f hc12 h
      refine V.aload_n d_Da_whoCasts_15 rfl 0 rfl ?_
      refine V.getR (r := 38) ok_Da fl_Da_29 (by decide) (by decide) ly_33 rfl d_Da_whoCasts_16 ?_
      refine V.iload_n d_Da_whoCasts_19 rfl 1 rfl ?_
      refine V.sipush (v := 144) d_Da_whoCasts_20 (by decide) ?_
      refine V.imul d_Da_whoCasts_23 ?_
      refine V.iload_n d_Da_whoCasts_24 rfl 2 rfl ?_
      refine V.iadd d_Da_whoCasts_25 ?_
      obtain ⟨gq, h⟩ := grd_e h
      refine V.ra (by decide) ly_38 (inb_e gq) rfl d_Da_whoCasts_26 ?_
      refine V.goto (tgt := 31) d_Da_whoCasts_27 (by decide) ?_
      cases h
      exact V.iret rfl d_Da_whoCasts_31 ⟨rfl, rfl⟩
abbrev m_Sh_shade : MI := (⟨"ShadeTown", "shade", "(III)I"⟩, prog_1_method_11_code, 4, (Option.some Jvm.ClassFile.FieldType.int))
theorem d_Sh_shade_0 : decode prog_1_method_11_code 0 = .ok (.iload_n 1, 1) := by decide +kernel
theorem d_Sh_shade_1 : decode prog_1_method_11_code 1 = .ok (.iload_n 2, 1) := by decide +kernel
theorem d_Sh_shade_2 : decode prog_1_method_11_code 2 = .ok (.invokestatic 119, 3) := by decide +kernel
theorem d_Sh_shade_15 : decode prog_1_method_11_code 15 = .ok (.iconst (-1), 1) := by decide +kernel
theorem d_Sh_shade_16 : decode prog_1_method_11_code 16 = .ok (.ireturn, 1) := by decide +kernel
theorem d_Sh_shade_8 : decode prog_1_method_11_code 8 = .ok (.iload_n 3, 1) := by decide +kernel
theorem d_Sh_shade_9 : decode prog_1_method_11_code 9 = .ok (.invokestatic 178, 3) := by decide +kernel
theorem d_Sh_shade_17 : decode prog_1_method_11_code 17 = .ok (.aload_n 0, 1) := by decide +kernel
theorem d_Sh_shade_18 : decode prog_1_method_11_code 18 = .ok (.invokevirtual 181, 3) := by decide +kernel
theorem d_Sh_shade_21 : decode prog_1_method_11_code 21 = .ok (.iload_n 3, 1) := by decide +kernel
theorem d_Sh_shade_22 : decode prog_1_method_11_code 22 = .ok (.bipush 12, 2) := by decide +kernel
theorem d_Sh_shade_24 : decode prog_1_method_11_code 24 = .ok (.iload_n 2, 1) := by decide +kernel
theorem d_Sh_shade_25 : decode prog_1_method_11_code 25 = .ok (.imul, 1) := by decide +kernel
theorem d_Sh_shade_26 : decode prog_1_method_11_code 26 = .ok (.iload_n 1, 1) := by decide +kernel
theorem d_Sh_shade_27 : decode prog_1_method_11_code 27 = .ok (.iadd, 1) := by decide +kernel
theorem d_Sh_shade_28 : decode prog_1_method_11_code 28 = .ok (.invokevirtual 197, 3) := by decide +kernel
theorem k_Da_whoCasts : MOk m_Da_whoCasts 2 ∧ IOk m_Da_whoCasts := ⟨⟨atG 857 (by decide +kernel) rfl, atG 116 (by decide +kernel) rfl, ⟨by decide, by decide⟩, by decide +kernel, by decide⟩, atG 855 (by decide +kernel) rfl, atG 856 (by decide +kernel) rfl⟩
theorem lk_Sh_197 : Cond.methodLink "ShadeTown" 197 ⟨"ShadeTown$Day", "whoCasts", "(II)I"⟩ ∈ tblG := atG 854 (by decide +kernel) rfl
theorem d_Sh_shade_31 : decode prog_1_method_11_code 31 = .ok (.ireturn, 1) := by decide +kernel
theorem d_Sh_shade_12 : decode prog_1_method_11_code 12 = .ok (.ifCond .ne 5, 3) := by decide +kernel
theorem d_Sh_shade_5 : decode prog_1_method_11_code 5 = .ok (.ifCond .eq 10, 3) := by decide +kernel
def f_Sh_shade (N : Nat) (σ : Mem) (a1 : Int32) (a2 : Int32) (a3 : Int32) : Option (Int32 × Mem) :=
  bnd1 (f_Sh_inTown a1 a2) fun r2 =>
  if r2 = 0 then
    (some ((-1), σ))
  else
    (bnd1 (f_Sh_isHour a3) fun r9 =>
    if r9 = 0 then
      (some ((-1), σ))
    else
      (bnd1 (f_Sh_today N σ) fun σ18 =>
      bnd1 (f_Da_whoCasts σ18 a3 ((12 * a2) + a1)) fun r28 =>
      some (r28, σ18)))
set_option maxHeartbeats 4000000 in
set_option maxRecDepth 20000 in
theorem c_Sh_shade (Z : ZX) {N : Nat} {σ : Mem} {a1 : Int32} {a2 : Int32} {a3 : Int32} {r : Int32} {σ' : Mem} (h : f_Sh_shade N σ a1 a2 a3 = some (r, σ')) : CI Z 6 m_Sh_shade [rf Z 0, .int a1, .int a2, .int a3] σ r σ' := by
  refine Ct.of (by decide +kernel) (Nat.le_of_ble_eq_true rfl) (fun Y => ?_)
  show V (mkB Z) Y m_Sh_shade 6 (QP (mkB Z) Y nC 0 0 (fun v t => v = some (.int r) ∧ t = σ')) 0 0 nC σ 0 [(0, rf Z 0), (1, .int a1), (2, .int a2), (3, .int a3)] []
  unfold f_Sh_shade at h
  refine V.iload_n d_Sh_shade_0 rfl 1 rfl ?_
  refine V.iload_n d_Sh_shade_1 rfl 2 rfl ?_
  obtain ⟨r2, h1, h⟩ := bnd1_e h
  refine V.sI (as := [.int a1, .int a2]) (st := []) (c_Sh_inTown Z h1) k_Sh_inTown lk_Sh_119 (by decide) rfl rfl (Nat.le_of_ble_eq_true rfl) d_Sh_shade_2 ?_
  refine V.if_eq (tgt := 15) d_Sh_shade_5 (by decide) (fun hc5 => ?_) (fun hc5 => ?_)
  · replace h := ite_t hc5 h
    refine V.iconst (v := (-1)) d_Sh_shade_15 (by decide) ?_
    cases h
    exact V.iret rfl d_Sh_shade_16 ⟨rfl, rfl⟩
  · replace h := ite_f hc5 h
    refine V.iload_n d_Sh_shade_8 rfl 3 rfl ?_
    obtain ⟨r9, h1, h⟩ := bnd1_e h
    refine V.sI (as := [.int a3]) (st := []) (c_Sh_isHour Z h1) k_Sh_isHour lk_Sh_178 (by decide) rfl rfl (Nat.le_of_ble_eq_true rfl) d_Sh_shade_9 ?_
    refine V.if_ne (tgt := 17) d_Sh_shade_12 (by decide) (fun hc12 => ?_) (fun hc12 => ?_)
    · replace h := ite_f hc12 h
      refine V.aload_n d_Sh_shade_17 rfl 0 rfl ?_
      obtain ⟨σ18, h1, h⟩ := bnd1_e h
      refine V.vA (as := []) (st := []) (c_Sh_today Z h1) k_Sh_today lk_Sh_181 (by decide) rfl (by decide) ly_0 ok_Sh.1 rfl (Nat.le_of_ble_eq_true rfl) d_Sh_shade_18 ?_
      refine V.iload_n d_Sh_shade_21 rfl 3 rfl ?_
      refine V.bipush (v := 12) d_Sh_shade_22 (by decide) ?_
      refine V.iload_n d_Sh_shade_24 rfl 2 rfl ?_
      refine V.imul d_Sh_shade_25 ?_
      refine V.iload_n d_Sh_shade_26 rfl 1 rfl ?_
      refine V.iadd d_Sh_shade_27 ?_
      obtain ⟨r28, h1, h⟩ := bnd1_e h
      refine V.vI (as := [.int a3, .int ((12 * a2) + a1)]) (st := []) (c_Da_whoCasts Z h1) k_Da_whoCasts lk_Sh_197 (by decide) rfl (by decide) ly_33 ok_Da.1 rfl (Nat.le_of_ble_eq_true rfl) d_Sh_shade_28 ?_
      cases h
      exact V.iret rfl d_Sh_shade_31 ⟨rfl, rfl⟩
    · replace h := ite_t hc12 h
      refine V.iconst (v := (-1)) d_Sh_shade_15 (by decide) ?_
      cases h
      exact V.iret rfl d_Sh_shade_16 ⟨rfl, rfl⟩
abbrev m_JI_bitCount_0f7a4 : MI := (⟨"java/lang/Integer", "bitCount", "(I)I"⟩, prog_15_method_49_code, 1, (Option.some Jvm.ClassFile.FieldType.int))
theorem d_JI_bitCount_0f7a4_0 : decode prog_15_method_49_code 0 = .ok (.iload_n 0, 1) := by decide +kernel
theorem d_JI_bitCount_0f7a4_1 : decode prog_15_method_49_code 1 = .ok (.iload_n 0, 1) := by decide +kernel
theorem d_JI_bitCount_0f7a4_2 : decode prog_15_method_49_code 2 = .ok (.iconst 1, 1) := by decide +kernel
theorem d_JI_bitCount_0f7a4_3 : decode prog_15_method_49_code 3 = .ok (.iushr, 1) := by decide +kernel
theorem kc_JI_265 : Cond.constant "java/lang/Integer" 265 (1431655765) ∈ tblG := atG 875 (by decide +kernel) rfl
theorem d_JI_bitCount_0f7a4_4 : decode prog_15_method_49_code 4 = .ok (.ldc_w 265, 3) := by decide +kernel
theorem d_JI_bitCount_0f7a4_7 : decode prog_15_method_49_code 7 = .ok (.iand, 1) := by decide +kernel
theorem d_JI_bitCount_0f7a4_8 : decode prog_15_method_49_code 8 = .ok (.isub, 1) := by decide +kernel
theorem d_JI_bitCount_0f7a4_9 : decode prog_15_method_49_code 9 = .ok (.istore_n 0, 1) := by decide +kernel
theorem d_JI_bitCount_0f7a4_10 : decode prog_15_method_49_code 10 = .ok (.iload_n 0, 1) := by decide +kernel
theorem kc_JI_266 : Cond.constant "java/lang/Integer" 266 (858993459) ∈ tblG := atG 876 (by decide +kernel) rfl
theorem d_JI_bitCount_0f7a4_11 : decode prog_15_method_49_code 11 = .ok (.ldc_w 266, 3) := by decide +kernel
theorem d_JI_bitCount_0f7a4_14 : decode prog_15_method_49_code 14 = .ok (.iand, 1) := by decide +kernel
theorem d_JI_bitCount_0f7a4_15 : decode prog_15_method_49_code 15 = .ok (.iload_n 0, 1) := by decide +kernel
theorem d_JI_bitCount_0f7a4_16 : decode prog_15_method_49_code 16 = .ok (.iconst 2, 1) := by decide +kernel
theorem d_JI_bitCount_0f7a4_17 : decode prog_15_method_49_code 17 = .ok (.iushr, 1) := by decide +kernel
theorem d_JI_bitCount_0f7a4_18 : decode prog_15_method_49_code 18 = .ok (.ldc_w 266, 3) := by decide +kernel
theorem d_JI_bitCount_0f7a4_21 : decode prog_15_method_49_code 21 = .ok (.iand, 1) := by decide +kernel
theorem d_JI_bitCount_0f7a4_22 : decode prog_15_method_49_code 22 = .ok (.iadd, 1) := by decide +kernel
theorem d_JI_bitCount_0f7a4_23 : decode prog_15_method_49_code 23 = .ok (.istore_n 0, 1) := by decide +kernel
theorem d_JI_bitCount_0f7a4_24 : decode prog_15_method_49_code 24 = .ok (.iload_n 0, 1) := by decide +kernel
theorem d_JI_bitCount_0f7a4_25 : decode prog_15_method_49_code 25 = .ok (.iload_n 0, 1) := by decide +kernel
theorem d_JI_bitCount_0f7a4_26 : decode prog_15_method_49_code 26 = .ok (.iconst 4, 1) := by decide +kernel
theorem d_JI_bitCount_0f7a4_27 : decode prog_15_method_49_code 27 = .ok (.iushr, 1) := by decide +kernel
theorem d_JI_bitCount_0f7a4_28 : decode prog_15_method_49_code 28 = .ok (.iadd, 1) := by decide +kernel
theorem kc_JI_267 : Cond.constant "java/lang/Integer" 267 (252645135) ∈ tblG := atG 877 (by decide +kernel) rfl
theorem d_JI_bitCount_0f7a4_29 : decode prog_15_method_49_code 29 = .ok (.ldc_w 267, 3) := by decide +kernel
theorem d_JI_bitCount_0f7a4_32 : decode prog_15_method_49_code 32 = .ok (.iand, 1) := by decide +kernel
theorem d_JI_bitCount_0f7a4_33 : decode prog_15_method_49_code 33 = .ok (.istore_n 0, 1) := by decide +kernel
theorem d_JI_bitCount_0f7a4_34 : decode prog_15_method_49_code 34 = .ok (.iload_n 0, 1) := by decide +kernel
theorem d_JI_bitCount_0f7a4_35 : decode prog_15_method_49_code 35 = .ok (.iload_n 0, 1) := by decide +kernel
theorem d_JI_bitCount_0f7a4_36 : decode prog_15_method_49_code 36 = .ok (.bipush 8, 2) := by decide +kernel
theorem d_JI_bitCount_0f7a4_38 : decode prog_15_method_49_code 38 = .ok (.iushr, 1) := by decide +kernel
theorem d_JI_bitCount_0f7a4_39 : decode prog_15_method_49_code 39 = .ok (.iadd, 1) := by decide +kernel
theorem d_JI_bitCount_0f7a4_40 : decode prog_15_method_49_code 40 = .ok (.istore_n 0, 1) := by decide +kernel
theorem d_JI_bitCount_0f7a4_41 : decode prog_15_method_49_code 41 = .ok (.iload_n 0, 1) := by decide +kernel
theorem d_JI_bitCount_0f7a4_42 : decode prog_15_method_49_code 42 = .ok (.iload_n 0, 1) := by decide +kernel
theorem d_JI_bitCount_0f7a4_43 : decode prog_15_method_49_code 43 = .ok (.bipush 16, 2) := by decide +kernel
theorem d_JI_bitCount_0f7a4_45 : decode prog_15_method_49_code 45 = .ok (.iushr, 1) := by decide +kernel
theorem d_JI_bitCount_0f7a4_46 : decode prog_15_method_49_code 46 = .ok (.iadd, 1) := by decide +kernel
theorem d_JI_bitCount_0f7a4_47 : decode prog_15_method_49_code 47 = .ok (.istore_n 0, 1) := by decide +kernel
theorem d_JI_bitCount_0f7a4_48 : decode prog_15_method_49_code 48 = .ok (.iload_n 0, 1) := by decide +kernel
theorem d_JI_bitCount_0f7a4_49 : decode prog_15_method_49_code 49 = .ok (.bipush 63, 2) := by decide +kernel
theorem d_JI_bitCount_0f7a4_51 : decode prog_15_method_49_code 51 = .ok (.iand, 1) := by decide +kernel
theorem d_JI_bitCount_0f7a4_52 : decode prog_15_method_49_code 52 = .ok (.ireturn, 1) := by decide +kernel
def f_JI_bitCount_0f7a4 (a0 : Int32) : Option (Int32) :=
  letv (a0 - (((a0.toUInt32 >>> ((1 : Int32).toUInt32 &&& Int32.toUInt32 31)).toInt32) &&& 1431655765)) fun v9 =>
  letv ((v9 &&& 858993459) + (((v9.toUInt32 >>> ((2 : Int32).toUInt32 &&& Int32.toUInt32 31)).toInt32) &&& 858993459)) fun v23 =>
  letv ((v23 + ((v23.toUInt32 >>> ((4 : Int32).toUInt32 &&& Int32.toUInt32 31)).toInt32)) &&& 252645135) fun v33 =>
  letv (v33 + ((v33.toUInt32 >>> ((8 : Int32).toUInt32 &&& Int32.toUInt32 31)).toInt32)) fun v40 =>
  letv (v40 + ((v40.toUInt32 >>> ((16 : Int32).toUInt32 &&& Int32.toUInt32 31)).toInt32)) fun v47 =>
  some (v47 &&& 63)
set_option maxHeartbeats 4000000 in
set_option maxRecDepth 20000 in
theorem c_JI_bitCount_0f7a4 (Z : ZX) {σ : Mem} {a0 : Int32} {r : Int32} (h : f_JI_bitCount_0f7a4 a0 = some r) : CI Z 0 m_JI_bitCount_0f7a4 [.int a0] σ r σ := by
  refine Ct.of (by decide +kernel) (Nat.le_of_ble_eq_true rfl) (fun Y => ?_)
  show V (mkB Z) Y m_JI_bitCount_0f7a4 0 (QP (mkB Z) Y nC 0 0 (fun v t => v = some (.int r) ∧ t = σ)) 0 0 nC σ 0 [(0, .int a0)] []
  unfold f_JI_bitCount_0f7a4 at h
  refine V.iload_n d_JI_bitCount_0f7a4_0 rfl 0 rfl ?_
  refine V.iload_n d_JI_bitCount_0f7a4_1 rfl 0 rfl ?_
  refine V.iconst (v := 1) d_JI_bitCount_0f7a4_2 (by decide) ?_
  refine V.iushr d_JI_bitCount_0f7a4_3 ?_
  refine V.ldcw (v := 1431655765) kc_JI_265 d_JI_bitCount_0f7a4_4 ?_
  refine V.iand d_JI_bitCount_0f7a4_7 ?_
  refine V.isub d_JI_bitCount_0f7a4_8 ?_
  obtain ⟨v9, e_v9, h⟩ := letv_e h
  refine V.topI e_v9 ?_
  refine V.istore_n (lv' := [(0, .int v9)]) d_JI_bitCount_0f7a4_9 rfl (by decide) rfl ?_
  refine V.iload_n d_JI_bitCount_0f7a4_10 rfl 0 rfl ?_
  refine V.ldcw (v := 858993459) kc_JI_266 d_JI_bitCount_0f7a4_11 ?_
  refine V.iand d_JI_bitCount_0f7a4_14 ?_
  refine V.iload_n d_JI_bitCount_0f7a4_15 rfl 0 rfl ?_
  refine V.iconst (v := 2) d_JI_bitCount_0f7a4_16 (by decide) ?_
  refine V.iushr d_JI_bitCount_0f7a4_17 ?_
  refine V.ldcw (v := 858993459) kc_JI_266 d_JI_bitCount_0f7a4_18 ?_
  refine V.iand d_JI_bitCount_0f7a4_21 ?_
  refine V.iadd d_JI_bitCount_0f7a4_22 ?_
  obtain ⟨v23, e_v23, h⟩ := letv_e h
  refine V.topI e_v23 ?_
  refine V.istore_n (lv' := [(0, .int v23)]) d_JI_bitCount_0f7a4_23 rfl (by decide) rfl ?_
  refine V.iload_n d_JI_bitCount_0f7a4_24 rfl 0 rfl ?_
  refine V.iload_n d_JI_bitCount_0f7a4_25 rfl 0 rfl ?_
  refine V.iconst (v := 4) d_JI_bitCount_0f7a4_26 (by decide) ?_
  refine V.iushr d_JI_bitCount_0f7a4_27 ?_
  refine V.iadd d_JI_bitCount_0f7a4_28 ?_
  refine V.ldcw (v := 252645135) kc_JI_267 d_JI_bitCount_0f7a4_29 ?_
  refine V.iand d_JI_bitCount_0f7a4_32 ?_
  obtain ⟨v33, e_v33, h⟩ := letv_e h
  refine V.topI e_v33 ?_
  refine V.istore_n (lv' := [(0, .int v33)]) d_JI_bitCount_0f7a4_33 rfl (by decide) rfl ?_
  refine V.iload_n d_JI_bitCount_0f7a4_34 rfl 0 rfl ?_
  refine V.iload_n d_JI_bitCount_0f7a4_35 rfl 0 rfl ?_
  refine V.bipush (v := 8) d_JI_bitCount_0f7a4_36 (by decide) ?_
  refine V.iushr d_JI_bitCount_0f7a4_38 ?_
  refine V.iadd d_JI_bitCount_0f7a4_39 ?_
  obtain ⟨v40, e_v40, h⟩ := letv_e h
  refine V.topI e_v40 ?_
  refine V.istore_n (lv' := [(0, .int v40)]) d_JI_bitCount_0f7a4_40 rfl (by decide) rfl ?_
  refine V.iload_n d_JI_bitCount_0f7a4_41 rfl 0 rfl ?_
  refine V.iload_n d_JI_bitCount_0f7a4_42 rfl 0 rfl ?_
  refine V.bipush (v := 16) d_JI_bitCount_0f7a4_43 (by decide) ?_
  refine V.iushr d_JI_bitCount_0f7a4_45 ?_
  refine V.iadd d_JI_bitCount_0f7a4_46 ?_
  obtain ⟨v47, e_v47, h⟩ := letv_e h
  refine V.topI e_v47 ?_
  refine V.istore_n (lv' := [(0, .int v47)]) d_JI_bitCount_0f7a4_47 rfl (by decide) rfl ?_
  refine V.iload_n d_JI_bitCount_0f7a4_48 rfl 0 rfl ?_
  refine V.bipush (v := 63) d_JI_bitCount_0f7a4_49 (by decide) ?_
  refine V.iand d_JI_bitCount_0f7a4_51 ?_
  cases h
  exact V.iret rfl d_JI_bitCount_0f7a4_52 ⟨rfl, rfl⟩
abbrev m_La_askSquare : MI := (⟨"ShadeTown$Law", "askSquare", "(II)V"⟩, prog_4_method_12_code, 3, (Option.none : Option Jvm.ClassFile.FieldType))
theorem d_La_askSquare_0 : decode prog_4_method_12_code 0 = .ok (.aload_n 0, 1) := by decide +kernel
theorem d_La_askSquare_1 : decode prog_4_method_12_code 1 = .ok (.getfield 31, 3) := by decide +kernel
theorem d_La_askSquare_4 : decode prog_4_method_12_code 4 = .ok (.iconst 2, 1) := by decide +kernel
theorem d_La_askSquare_5 : decode prog_4_method_12_code 5 = .ok (.iload_n 1, 1) := by decide +kernel
theorem d_La_askSquare_6 : decode prog_4_method_12_code 6 = .ok (.bipush 12, 2) := by decide +kernel
theorem d_La_askSquare_8 : decode prog_4_method_12_code 8 = .ok (.irem, 1) := by decide +kernel
theorem d_La_askSquare_9 : decode prog_4_method_12_code 9 = .ok (.iastore, 1) := by decide +kernel
theorem d_La_askSquare_10 : decode prog_4_method_12_code 10 = .ok (.aload_n 0, 1) := by decide +kernel
theorem d_La_askSquare_11 : decode prog_4_method_12_code 11 = .ok (.getfield 31, 3) := by decide +kernel
theorem d_La_askSquare_14 : decode prog_4_method_12_code 14 = .ok (.iconst 3, 1) := by decide +kernel
theorem d_La_askSquare_15 : decode prog_4_method_12_code 15 = .ok (.iload_n 1, 1) := by decide +kernel
theorem d_La_askSquare_16 : decode prog_4_method_12_code 16 = .ok (.bipush 12, 2) := by decide +kernel
theorem d_La_askSquare_18 : decode prog_4_method_12_code 18 = .ok (.idiv, 1) := by decide +kernel
theorem d_La_askSquare_19 : decode prog_4_method_12_code 19 = .ok (.iastore, 1) := by decide +kernel
theorem d_La_askSquare_20 : decode prog_4_method_12_code 20 = .ok (.aload_n 0, 1) := by decide +kernel
theorem d_La_askSquare_21 : decode prog_4_method_12_code 21 = .ok (.getfield 31, 3) := by decide +kernel
theorem d_La_askSquare_24 : decode prog_4_method_12_code 24 = .ok (.iconst 4, 1) := by decide +kernel
theorem d_La_askSquare_25 : decode prog_4_method_12_code 25 = .ok (.iload_n 2, 1) := by decide +kernel
theorem d_La_askSquare_26 : decode prog_4_method_12_code 26 = .ok (.iastore, 1) := by decide +kernel
theorem d_La_askSquare_27 : decode prog_4_method_12_code 27 = .ok (.return_, 1) := by decide +kernel
def f_La_askSquare (σ : Mem) (a1 : Int32) (a2 : Int32) : Option (Mem) :=
  letv (sI σ 8 2 (a1 - a1 / 12 * 12)) fun σ9 =>
  letv (sI σ9 8 3 (a1 / 12)) fun σ19 =>
  letv (sI σ19 8 4 a2) fun σ26 =>
  some σ26
set_option maxHeartbeats 4000000 in
set_option maxRecDepth 20000 in
theorem c_La_askSquare (Z : ZX) {σ : Mem} {a1 : Int32} {a2 : Int32} {σ' : Mem} (h : f_La_askSquare σ a1 a2 = some σ') : CN Z 0 m_La_askSquare [rf Z 3, .int a1, .int a2] σ σ' := by
  refine Ct.of (by decide +kernel) (Nat.le_of_ble_eq_true rfl) (fun Y => ?_)
  show V (mkB Z) Y m_La_askSquare 0 (QP (mkB Z) Y nC 0 0 (fun v t => v = none ∧ t = σ')) 0 0 nC σ 0 [(0, rf Z 3), (1, .int a1), (2, .int a2)] []
  unfold f_La_askSquare at h
  refine V.aload_n d_La_askSquare_0 rfl 0 rfl ?_
  refine V.getR (r := 8) ok_La fl_La_31 (by decide) (by decide) ly_3 rfl d_La_askSquare_1 ?_
  refine V.iconst (v := 2) d_La_askSquare_4 (by decide) ?_
  refine V.iload_n d_La_askSquare_5 rfl 1 rfl ?_
  refine V.bipush (v := 12) d_La_askSquare_6 (by decide) ?_
  refine V.irem d_La_askSquare_8 (by decide) ?_
  obtain ⟨σ9, e_σ9, h⟩ := letv_e h
  refine V.wa (j := 2) (by decide) ly_8 (inb_e (by decide)) (by decide) d_La_askSquare_9 e_σ9 ?_
  refine V.aload_n d_La_askSquare_10 rfl 0 rfl ?_
  refine V.getR (r := 8) ok_La fl_La_31 (by decide) (by decide) ly_3 rfl d_La_askSquare_11 ?_
  refine V.iconst (v := 3) d_La_askSquare_14 (by decide) ?_
  refine V.iload_n d_La_askSquare_15 rfl 1 rfl ?_
  refine V.bipush (v := 12) d_La_askSquare_16 (by decide) ?_
  refine V.idiv d_La_askSquare_18 (by decide) ?_
  obtain ⟨σ19, e_σ19, h⟩ := letv_e h
  refine V.wa (j := 3) (by decide) ly_8 (inb_e (by decide)) (by decide) d_La_askSquare_19 e_σ19 ?_
  refine V.aload_n d_La_askSquare_20 rfl 0 rfl ?_
  refine V.getR (r := 8) ok_La fl_La_31 (by decide) (by decide) ly_3 rfl d_La_askSquare_21 ?_
  refine V.iconst (v := 4) d_La_askSquare_24 (by decide) ?_
  refine V.iload_n d_La_askSquare_25 rfl 2 rfl ?_
  obtain ⟨σ26, e_σ26, h⟩ := letv_e h
  refine V.wa (j := 4) (by decide) ly_8 (inb_e (by decide)) (by decide) d_La_askSquare_26 e_σ26 ?_
  cases h
  exact V.vret rfl d_La_askSquare_27 ⟨rfl, rfl⟩
