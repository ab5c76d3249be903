abbrev m_Mo_laysSale : MI := (⟨"ShadeTownModel", "laysSale", "(II)V"⟩, prog_13_method_92_code, 8, (Option.none : Option Jvm.ClassFile.FieldType))
theorem d_Mo_laysSale_0 : decode prog_13_method_92_code 0 = .ok (.lconst 1, 1) := by decide +kernel
theorem d_Mo_laysSale_1 : decode prog_13_method_92_code 1 = .ok (.lstore_n 3, 1) := by decide +kernel
theorem d_Mo_laysSale_2 : decode prog_13_method_92_code 2 = .ok (.bipush 7, 2) := by decide +kernel
theorem d_Mo_laysSale_4 : decode prog_13_method_92_code 4 = .ok (.istore 5, 2) := by decide +kernel
theorem d_Mo_laysSale_6 : decode prog_13_method_92_code 6 = .ok (.iload 5, 2) := by decide +kernel
theorem d_Mo_laysSale_11 : decode prog_13_method_92_code 11 = .ok (.aload_n 0, 1) := by decide +kernel
theorem d_Mo_laysSale_12 : decode prog_13_method_92_code 12 = .ok (.getfield 106, 3) := by decide +kernel
theorem d_Mo_laysSale_15 : decode prog_13_method_92_code 15 = .ok (.iload 5, 2) := by decide +kernel
theorem d_Mo_laysSale_17 : decode prog_13_method_92_code 17 = .ok (.iload_n 2, 1) := by decide +kernel
theorem d_Mo_laysSale_18 : decode prog_13_method_92_code 18 = .ok (.iload 5, 2) := by decide +kernel
theorem d_Mo_laysSale_20 : decode prog_13_method_92_code 20 = .ok (.invokestatic 177, 3) := by decide +kernel
theorem d_Mo_laysSale_30 : decode prog_13_method_92_code 30 = .ok (.lconst 0, 1) := by decide +kernel
theorem d_Mo_laysSale_26 : decode prog_13_method_92_code 26 = .ok (.lload_n 3, 1) := by decide +kernel
theorem d_Mo_laysSale_27 : decode prog_13_method_92_code 27 = .ok (.goto 4, 3) := by decide +kernel
theorem d_Mo_laysSale_23 : decode prog_13_method_92_code 23 = .ok (.ifCond .eq 7, 3) := by decide +kernel
theorem d_Mo_laysSale_31 : decode prog_13_method_92_code 31 = .ok (.lastore, 1) := by decide +kernel
theorem d_Mo_laysSale_32 : decode prog_13_method_92_code 32 = .ok (.iload_n 2, 1) := by decide +kernel
theorem d_Mo_laysSale_33 : decode prog_13_method_92_code 33 = .ok (.iload 5, 2) := by decide +kernel
theorem d_Mo_laysSale_35 : decode prog_13_method_92_code 35 = .ok (.invokestatic 177, 3) := by decide +kernel
theorem d_Mo_laysSale_49 : decode prog_13_method_92_code 49 = .ok (.lload_n 3, 1) := by decide +kernel
theorem d_Mo_laysSale_41 : decode prog_13_method_92_code 41 = .ok (.lload_n 3, 1) := by decide +kernel
theorem kl_Mo_455 : Cond.constantLong "ShadeTownModel" 455 (145) ∈ tblG := atG 1917 (by decide +kernel) rfl
theorem d_Mo_laysSale_42 : decode prog_13_method_92_code 42 = .ok (.ldc2_w 455, 3) := by decide +kernel
theorem d_Mo_laysSale_45 : decode prog_13_method_92_code 45 = .ok (.lmul, 1) := by decide +kernel
theorem d_Mo_laysSale_46 : decode prog_13_method_92_code 46 = .ok (.goto 4, 3) := by decide +kernel
theorem d_Mo_laysSale_38 : decode prog_13_method_92_code 38 = .ok (.ifCond .eq 11, 3) := by decide +kernel
theorem d_Mo_laysSale_50 : decode prog_13_method_92_code 50 = .ok (.lstore_n 3, 1) := by decide +kernel
theorem d_Mo_laysSale_51 : decode prog_13_method_92_code 51 = .ok (.iinc 5 (-1), 3) := by decide +kernel
theorem d_Mo_laysSale_54 : decode prog_13_method_92_code 54 = .ok (.goto (-48), 3) := by decide +kernel
theorem d_Mo_laysSale_8 : decode prog_13_method_92_code 8 = .ok (.ifCond .lt 49, 3) := by decide +kernel
theorem d_Mo_laysSale_57 : decode prog_13_method_92_code 57 = .ok (.iconst 0, 1) := by decide +kernel
theorem d_Mo_laysSale_58 : decode prog_13_method_92_code 58 = .ok (.istore 5, 2) := by decide +kernel
theorem d_Mo_laysSale_60 : decode prog_13_method_92_code 60 = .ok (.iload 5, 2) := by decide +kernel
theorem d_Mo_laysSale_62 : decode prog_13_method_92_code 62 = .ok (.sipush 256, 3) := by decide +kernel
theorem d_Mo_laysSale_68 : decode prog_13_method_92_code 68 = .ok (.aload_n 0, 1) := by decide +kernel
theorem d_Mo_laysSale_69 : decode prog_13_method_92_code 69 = .ok (.getfield 99, 3) := by decide +kernel
theorem d_Mo_laysSale_72 : decode prog_13_method_92_code 72 = .ok (.iload 5, 2) := by decide +kernel
theorem d_Mo_laysSale_74 : decode prog_13_method_92_code 74 = .ok (.iload 5, 2) := by decide +kernel
theorem d_Mo_laysSale_83 : decode prog_13_method_92_code 83 = .ok (.iconst (-1), 1) := by decide +kernel
theorem d_Mo_laysSale_79 : decode prog_13_method_92_code 79 = .ok (.iconst 0, 1) := by decide +kernel
theorem d_Mo_laysSale_80 : decode prog_13_method_92_code 80 = .ok (.goto 4, 3) := by decide +kernel
theorem d_Mo_laysSale_76 : decode prog_13_method_92_code 76 = .ok (.ifCond .ne 7, 3) := by decide +kernel
theorem d_Mo_laysSale_84 : decode prog_13_method_92_code 84 = .ok (.iastore, 1) := by decide +kernel
theorem d_Mo_laysSale_85 : decode prog_13_method_92_code 85 = .ok (.aload_n 0, 1) := by decide +kernel
theorem d_Mo_laysSale_86 : decode prog_13_method_92_code 86 = .ok (.getfield 102, 3) := by decide +kernel
theorem d_Mo_laysSale_89 : decode prog_13_method_92_code 89 = .ok (.iload 5, 2) := by decide +kernel
theorem d_Mo_laysSale_91 : decode prog_13_method_92_code 91 = .ok (.lconst 0, 1) := by decide +kernel
theorem d_Mo_laysSale_92 : decode prog_13_method_92_code 92 = .ok (.lastore, 1) := by decide +kernel
theorem d_Mo_laysSale_93 : decode prog_13_method_92_code 93 = .ok (.iinc 5 1, 3) := by decide +kernel
theorem d_Mo_laysSale_96 : decode prog_13_method_92_code 96 = .ok (.goto (-36), 3) := by decide +kernel
theorem d_Mo_laysSale_65 : decode prog_13_method_92_code 65 = .ok (.if_icmp .ge 34, 3) := by decide +kernel
theorem d_Mo_laysSale_99 : decode prog_13_method_92_code 99 = .ok (.iconst 0, 1) := by decide +kernel
theorem d_Mo_laysSale_100 : decode prog_13_method_92_code 100 = .ok (.istore 5, 2) := by decide +kernel
theorem d_Mo_laysSale_102 : decode prog_13_method_92_code 102 = .ok (.iload 5, 2) := by decide +kernel
theorem d_Mo_laysSale_104 : decode prog_13_method_92_code 104 = .ok (.sipush 144, 3) := by decide +kernel
theorem d_Mo_laysSale_110 : decode prog_13_method_92_code 110 = .ok (.aload_n 0, 1) := by decide +kernel
theorem d_Mo_laysSale_111 : decode prog_13_method_92_code 111 = .ok (.iload_n 1, 1) := by decide +kernel
theorem d_Mo_laysSale_112 : decode prog_13_method_92_code 112 = .ok (.iload 5, 2) := by decide +kernel
theorem d_Mo_laysSale_114 : decode prog_13_method_92_code 114 = .ok (.invokevirtual 373, 3) := by decide +kernel
theorem d_Mo_laysSale_123 : decode prog_13_method_92_code 123 = .ok (.iconst 0, 1) := by decide +kernel
theorem d_Mo_laysSale_124 : decode prog_13_method_92_code 124 = .ok (.istore 6, 2) := by decide +kernel
theorem d_Mo_laysSale_126 : decode prog_13_method_92_code 126 = .ok (.iload 6, 2) := by decide +kernel
theorem d_Mo_laysSale_128 : decode prog_13_method_92_code 128 = .ok (.bipush 8, 2) := by decide +kernel
theorem d_Mo_laysSale_133 : decode prog_13_method_92_code 133 = .ok (.aload_n 0, 1) := by decide +kernel
theorem d_Mo_laysSale_134 : decode prog_13_method_92_code 134 = .ok (.getfield 109, 3) := by decide +kernel
theorem d_Mo_laysSale_137 : decode prog_13_method_92_code 137 = .ok (.iload 6, 2) := by decide +kernel
theorem d_Mo_laysSale_139 : decode prog_13_method_92_code 139 = .ok (.iload_n 2, 1) := by decide +kernel
theorem d_Mo_laysSale_140 : decode prog_13_method_92_code 140 = .ok (.iload 6, 2) := by decide +kernel
theorem d_Mo_laysSale_142 : decode prog_13_method_92_code 142 = .ok (.invokestatic 177, 3) := by decide +kernel
theorem d_Mo_laysSale_160 : decode prog_13_method_92_code 160 = .ok (.iconst 0, 1) := by decide +kernel
theorem d_Mo_laysSale_148 : decode prog_13_method_92_code 148 = .ok (.aload_n 0, 1) := by decide +kernel
theorem d_Mo_laysSale_149 : decode prog_13_method_92_code 149 = .ok (.iload 6, 2) := by decide +kernel
theorem d_Mo_laysSale_151 : decode prog_13_method_92_code 151 = .ok (.iload 5, 2) := by decide +kernel
theorem d_Mo_laysSale_153 : decode prog_13_method_92_code 153 = .ok (.iload_n 1, 1) := by decide +kernel
theorem d_Mo_laysSale_154 : decode prog_13_method_92_code 154 = .ok (.invokevirtual 450, 3) := by decide +kernel
theorem d_Mo_laysSale_157 : decode prog_13_method_92_code 157 = .ok (.goto 4, 3) := by decide +kernel
theorem d_Mo_laysSale_145 : decode prog_13_method_92_code 145 = .ok (.ifCond .eq 15, 3) := by decide +kernel
theorem d_Mo_laysSale_161 : decode prog_13_method_92_code 161 = .ok (.iastore, 1) := by decide +kernel
theorem d_Mo_laysSale_162 : decode prog_13_method_92_code 162 = .ok (.iinc 6 1, 3) := by decide +kernel
theorem d_Mo_laysSale_165 : decode prog_13_method_92_code 165 = .ok (.goto (-39), 3) := by decide +kernel
theorem d_Mo_laysSale_130 : decode prog_13_method_92_code 130 = .ok (.if_icmp .ge 38, 3) := by decide +kernel
theorem d_Mo_laysSale_168 : decode prog_13_method_92_code 168 = .ok (.aload_n 0, 1) := by decide +kernel
theorem d_Mo_laysSale_169 : decode prog_13_method_92_code 169 = .ok (.iload_n 2, 1) := by decide +kernel
theorem d_Mo_laysSale_170 : decode prog_13_method_92_code 170 = .ok (.iload 5, 2) := by decide +kernel
theorem d_Mo_laysSale_172 : decode prog_13_method_92_code 172 = .ok (.invokevirtual 457, 3) := by decide +kernel
theorem k_Mo_sells : MOk m_Mo_sells 2 ∧ IOk m_Mo_sells := ⟨⟨atG 1921 (by decide +kernel) rfl, atG 122 (by decide +kernel) rfl, ⟨by decide, by decide⟩, by decide +kernel, by decide⟩, atG 1920 (by decide +kernel) rfl, atG 94 (by decide +kernel) rfl⟩
theorem lk_Mo_457 : Cond.methodLink "ShadeTownModel" 457 ⟨"ShadeTownModel", "sells", "(II)V"⟩ ∈ tblG := atG 1918 (by decide +kernel) rfl
theorem d_Mo_laysSale_120 : decode prog_13_method_92_code 120 = .ok (.goto 55, 3) := by decide +kernel
theorem d_Mo_laysSale_117 : decode prog_13_method_92_code 117 = .ok (.ifCond .ne 6, 3) := by decide +kernel
theorem d_Mo_laysSale_175 : decode prog_13_method_92_code 175 = .ok (.iinc 5 1, 3) := by decide +kernel
theorem d_Mo_laysSale_178 : decode prog_13_method_92_code 178 = .ok (.goto (-76), 3) := by decide +kernel
theorem d_Mo_laysSale_107 : decode prog_13_method_92_code 107 = .ok (.if_icmp .ge 74, 3) := by decide +kernel
theorem d_Mo_laysSale_181 : decode prog_13_method_92_code 181 = .ok (.aload_n 0, 1) := by decide +kernel
theorem d_Mo_laysSale_182 : decode prog_13_method_92_code 182 = .ok (.iconst (-1), 1) := by decide +kernel
theorem fl_Mo_460 : FL "ShadeTownModel" 460 T_Mo 53 := atG 1385 (by decide +kernel) rfl
theorem d_Mo_laysSale_183 : decode prog_13_method_92_code 183 = .ok (.putfield 460, 3) := by decide +kernel
theorem d_Mo_laysSale_186 : decode prog_13_method_92_code 186 = .ok (.iconst 0, 1) := by decide +kernel
theorem d_Mo_laysSale_187 : decode prog_13_method_92_code 187 = .ok (.istore 5, 2) := by decide +kernel
theorem d_Mo_laysSale_189 : decode prog_13_method_92_code 189 = .ok (.iload 5, 2) := by decide +kernel
theorem d_Mo_laysSale_191 : decode prog_13_method_92_code 191 = .ok (.iload_n 2, 1) := by decide +kernel
theorem d_Mo_laysSale_290 : decode prog_13_method_92_code 290 = .ok (.return_, 1) := by decide +kernel
theorem d_Mo_laysSale_195 : decode prog_13_method_92_code 195 = .ok (.iload 5, 2) := by decide +kernel
theorem d_Mo_laysSale_197 : decode prog_13_method_92_code 197 = .ok (.iload_n 2, 1) := by decide +kernel
theorem d_Mo_laysSale_198 : decode prog_13_method_92_code 198 = .ok (.iconst (-1), 1) := by decide +kernel
theorem d_Mo_laysSale_199 : decode prog_13_method_92_code 199 = .ok (.ixor, 1) := by decide +kernel
theorem d_Mo_laysSale_200 : decode prog_13_method_92_code 200 = .ok (.iand, 1) := by decide +kernel
theorem d_Mo_laysSale_204 : decode prog_13_method_92_code 204 = .ok (.aload_n 0, 1) := by decide +kernel
theorem d_Mo_laysSale_205 : decode prog_13_method_92_code 205 = .ok (.getfield 99, 3) := by decide +kernel
theorem d_Mo_laysSale_208 : decode prog_13_method_92_code 208 = .ok (.iload 5, 2) := by decide +kernel
theorem d_Mo_laysSale_210 : decode prog_13_method_92_code 210 = .ok (.iaload, 1) := by decide +kernel
theorem d_Mo_laysSale_217 : decode prog_13_method_92_code 217 = .ok (.aload_n 0, 1) := by decide +kernel
theorem d_Mo_laysSale_218 : decode prog_13_method_92_code 218 = .ok (.iload_n 2, 1) := by decide +kernel
theorem d_Mo_laysSale_219 : decode prog_13_method_92_code 219 = .ok (.iload 5, 2) := by decide +kernel
theorem d_Mo_laysSale_221 : decode prog_13_method_92_code 221 = .ok (.invokevirtual 463, 3) := by decide +kernel
theorem k_Mo_keyOf : MOk m_Mo_keyOf 2 ∧ IOk m_Mo_keyOf := ⟨⟨atG 1925 (by decide +kernel) rfl, atG 122 (by decide +kernel) rfl, ⟨by decide, by decide⟩, by decide +kernel, by decide⟩, atG 1924 (by decide +kernel) rfl, atG 95 (by decide +kernel) rfl⟩
theorem lk_Mo_463 : Cond.methodLink "ShadeTownModel" 463 ⟨"ShadeTownModel", "keyOf", "(II)J"⟩ ∈ tblG := atG 1922 (by decide +kernel) rfl
theorem d_Mo_laysSale_224 : decode prog_13_method_92_code 224 = .ok (.lstore 6, 2) := by decide +kernel
theorem d_Mo_laysSale_226 : decode prog_13_method_92_code 226 = .ok (.aload_n 0, 1) := by decide +kernel
theorem d_Mo_laysSale_227 : decode prog_13_method_92_code 227 = .ok (.getfield 99, 3) := by decide +kernel
theorem d_Mo_laysSale_230 : decode prog_13_method_92_code 230 = .ok (.iload 5, 2) := by decide +kernel
theorem d_Mo_laysSale_232 : decode prog_13_method_92_code 232 = .ok (.iaload, 1) := by decide +kernel
theorem d_Mo_laysSale_233 : decode prog_13_method_92_code 233 = .ok (.aload_n 0, 1) := by decide +kernel
theorem d_Mo_laysSale_234 : decode prog_13_method_92_code 234 = .ok (.getfield 460, 3) := by decide +kernel
theorem d_Mo_laysSale_240 : decode prog_13_method_92_code 240 = .ok (.aload_n 0, 1) := by decide +kernel
theorem d_Mo_laysSale_241 : decode prog_13_method_92_code 241 = .ok (.getfield 99, 3) := by decide +kernel
theorem d_Mo_laysSale_244 : decode prog_13_method_92_code 244 = .ok (.iload 5, 2) := by decide +kernel
theorem d_Mo_laysSale_246 : decode prog_13_method_92_code 246 = .ok (.iaload, 1) := by decide +kernel
theorem d_Mo_laysSale_247 : decode prog_13_method_92_code 247 = .ok (.aload_n 0, 1) := by decide +kernel
theorem d_Mo_laysSale_248 : decode prog_13_method_92_code 248 = .ok (.getfield 460, 3) := by decide +kernel
theorem d_Mo_laysSale_254 : decode prog_13_method_92_code 254 = .ok (.lload 6, 2) := by decide +kernel
theorem d_Mo_laysSale_256 : decode prog_13_method_92_code 256 = .ok (.aload_n 0, 1) := by decide +kernel
theorem fl_Mo_467 : FL "ShadeTownModel" 467 T_Mo 54 := atG 1386 (by decide +kernel) rfl
theorem d_Mo_laysSale_257 : decode prog_13_method_92_code 257 = .ok (.getfield 467, 3) := by decide +kernel
theorem d_Mo_laysSale_260 : decode prog_13_method_92_code 260 = .ok (.lcmp, 1) := by decide +kernel
theorem d_Mo_laysSale_264 : decode prog_13_method_92_code 264 = .ok (.goto 20, 3) := by decide +kernel
theorem d_Mo_laysSale_261 : decode prog_13_method_92_code 261 = .ok (.ifCond .lt 6, 3) := by decide +kernel
theorem d_Mo_laysSale_251 : decode prog_13_method_92_code 251 = .ok (.if_icmp .ne 16, 3) := by decide +kernel
theorem d_Mo_laysSale_237 : decode prog_13_method_92_code 237 = .ok (.if_icmp .lt 47, 3) := by decide +kernel
theorem d_Mo_laysSale_214 : decode prog_13_method_92_code 214 = .ok (.goto 70, 3) := by decide +kernel
theorem d_Mo_laysSale_211 : decode prog_13_method_92_code 211 = .ok (.ifCond .ge 6, 3) := by decide +kernel
theorem d_Mo_laysSale_201 : decode prog_13_method_92_code 201 = .ok (.ifCond .ne 83, 3) := by decide +kernel
theorem d_Mo_laysSale_267 : decode prog_13_method_92_code 267 = .ok (.aload_n 0, 1) := by decide +kernel
theorem d_Mo_laysSale_268 : decode prog_13_method_92_code 268 = .ok (.aload_n 0, 1) := by decide +kernel
theorem d_Mo_laysSale_269 : decode prog_13_method_92_code 269 = .ok (.getfield 99, 3) := by decide +kernel
theorem d_Mo_laysSale_272 : decode prog_13_method_92_code 272 = .ok (.iload 5, 2) := by decide +kernel
theorem d_Mo_laysSale_274 : decode prog_13_method_92_code 274 = .ok (.iaload, 1) := by decide +kernel
theorem d_Mo_laysSale_275 : decode prog_13_method_92_code 275 = .ok (.putfield 460, 3) := by decide +kernel
theorem d_Mo_laysSale_278 : decode prog_13_method_92_code 278 = .ok (.aload_n 0, 1) := by decide +kernel
theorem d_Mo_laysSale_279 : decode prog_13_method_92_code 279 = .ok (.lload 6, 2) := by decide +kernel
theorem d_Mo_laysSale_281 : decode prog_13_method_92_code 281 = .ok (.putfield 467, 3) := by decide +kernel
theorem d_Mo_laysSale_284 : decode prog_13_method_92_code 284 = .ok (.iinc 5 1, 3) := by decide +kernel
theorem d_Mo_laysSale_287 : decode prog_13_method_92_code 287 = .ok (.goto (-98), 3) := by decide +kernel
theorem d_Mo_laysSale_192 : decode prog_13_method_92_code 192 = .ok (.if_icmp .gt 98, 3) := by decide +kernel
def B_Mo_laysSale_l6 (N : Nat) (a1 : Int32) (a2 : Int32) (rec : Int64 → Int32 → Mem → Option (Mem)) (x3 : Int64) (x5 : Int32) (σ : Mem) : Option (Mem) :=
  if x5 < 0 then
    (some σ)
  else
    (bnd1 (f_Mo_has a2 x5) fun r20 =>
    bnd1 ((
      if r20 = 0 then
        (some 0)
      else
        (some x3)) : Option (Int64)) fun y23_s2 =>
    grd (inb x5 8) <|
    letv (sL σ 97 (x5.toNatClampNeg) y23_s2) fun σ31 =>
    bnd1 (f_Mo_has a2 x5) fun r35 =>
    bnd1 ((
      if r35 = 0 then
        (some x3)
      else
        (some (x3 * 145))) : Option (Int64)) fun y38_s0 =>
    letv (x5 + (-1)) fun v51 =>
    rec y38_s0 v51 σ31)
def L_Mo_laysSale_l6 (N : Nat) (a1 : Int32) (a2 : Int32) : Nat → Int64 → Int32 → Mem → Option (Mem)
  | 0, _, _, _ => none
  | k + 1, x3, x5, σ => B_Mo_laysSale_l6 N a1 a2 (L_Mo_laysSale_l6 N a1 a2 k) x3 x5 σ
set_option maxHeartbeats 4000000 in
set_option maxRecDepth 20000 in
theorem cL_Mo_laysSale_l6 (Z : ZX) {Y : YX} {Q : State → Prop} {N : Nat} {a1 : Int32} {a2 : Int32} {Good : Mem → Prop} (hE : ∀ (σe : Mem), Good σe → V (mkB Z) Y m_Mo_laysSale 4 Q 0 0 nC σe 57 [(0, rf Z 65), (1, .int a1), (2, .int a2)] []) : ∀ (k : Nat) (x3 : Int64) (x5 : Int32) (σ : Mem) (res : Mem), L_Mo_laysSale_l6 N a1 a2 k x3 x5 σ = some res → Good res → V (mkB Z) Y m_Mo_laysSale 4 Q 0 0 nC σ 6 [(0, rf Z 65), (1, .int a1), (2, .int a2), (3, .long x3), (5, .int x5)] [] := by
  intro k
  induction k with
  | zero => intro x3 x5 σ res h; cases h
  | succ k ih =>
    intro x3 x5 σ res h hg
    replace h : B_Mo_laysSale_l6 N a1 a2 (L_Mo_laysSale_l6 N a1 a2 k) x3 x5 σ = some res := h
    unfold B_Mo_laysSale_l6 at h
    refine V.iload d_Mo_laysSale_6 4 rfl ?_
    refine V.if_lt (tgt := 57) d_Mo_laysSale_8 (by decide) (fun hc8 => ?_) (fun hc8 => ?_)
    · replace h := ite_t hc8 h
      cases h
      exact V.pick [0, 1, 2] rfl (hE _ hg)
    · replace h := ite_f hc8 h
      refine V.aload_n d_Mo_laysSale_11 rfl 0 rfl ?_
      refine V.getR (r := 97) ok_Mo fl_Mo_106 (by decide) (by decide) ly_65 rfl d_Mo_laysSale_12 ?_
      refine V.iload d_Mo_laysSale_15 4 rfl ?_
      refine V.iload_n d_Mo_laysSale_17 rfl 2 rfl ?_
      refine V.iload d_Mo_laysSale_18 4 rfl ?_
      obtain ⟨r20, h1, h⟩ := bnd1_e h
      refine V.sI (as := [.int a2, .int x5]) (st := [.int x5, rf Z 97]) (c_Mo_has Z h1) k_Mo_has lk_Mo_177 (by decide) rfl rfl (Nat.le_of_ble_eq_true rfl) d_Mo_laysSale_20 ?_
      obtain ⟨s23, h1, h⟩ := bnd1_e h
      have J23_31 : ∀ (y23_s2 : Int64), s23 = y23_s2 → V (mkB Z) Y m_Mo_laysSale 4 Q 0 0 nC σ 31 [(0, rf Z 65), (1, .int a1), (2, .int a2), (3, .long x3), (5, .int x5)] [.long y23_s2, .int x5, rf Z 97] := by
        intro y23_s2 he
        rw [he] at h
        obtain ⟨gq, h⟩ := grd_e h
        obtain ⟨σ31, e_σ31, h⟩ := letv_e h
        refine V.wl (by decide) ly_97 (inb_e gq) rfl d_Mo_laysSale_31 e_σ31 ?_
        refine V.iload_n d_Mo_laysSale_32 rfl 2 rfl ?_
        refine V.iload d_Mo_laysSale_33 4 rfl ?_
        obtain ⟨r35, h1, h⟩ := bnd1_e h
        refine V.sI (as := [.int a2, .int x5]) (st := []) (c_Mo_has Z h1) k_Mo_has lk_Mo_177 (by decide) rfl rfl (Nat.le_of_ble_eq_true rfl) d_Mo_laysSale_35 ?_
        obtain ⟨s38, h1, h⟩ := bnd1_e h
        have J38_50 : ∀ (y38_s0 : Int64), s38 = y38_s0 → V (mkB Z) Y m_Mo_laysSale 4 Q 0 0 nC σ31 50 [(0, rf Z 65), (1, .int a1), (2, .int a2), (5, .int x5)] [.long y38_s0] := by
          intro y38_s0 he
          rw [he] at h
          refine V.lstore_n (lv' := [(3, .long y38_s0), (0, rf Z 65), (1, .int a1), (2, .int a2), (5, .int x5)]) d_Mo_laysSale_50 rfl (by decide) rfl ?_
          obtain ⟨v51, e_v51, h⟩ := letv_e h
          refine V.iinc (v := v51) (lv' := [(5, .int v51), (3, .long y38_s0), (0, rf Z 65), (1, .int a1), (2, .int a2)]) d_Mo_laysSale_51 4 rfl (by rw [e_v51]; rfl) (by decide) rfl ?_
          refine V.goto (tgt := 6) d_Mo_laysSale_54 (by decide) ?_
          exact V.pick [2, 3, 4, 1, 0] rfl (ih _ _ _ _ h hg)
        replace h := h1
        refine V.if_eq (tgt := 49) d_Mo_laysSale_38 (by decide) (fun hc38 => ?_) (fun hc38 => ?_)
        · replace h := ite_t hc38 h
          refine V.lload_n d_Mo_laysSale_49 rfl 3 rfl ?_
          exact V.pick [0, 1, 2, 4] rfl (J38_50 _ (Option.some.inj h).symm)
        · replace h := ite_f hc38 h
          refine V.lload_n d_Mo_laysSale_41 rfl 3 rfl ?_
          refine V.ldc2 (v := 145) kl_Mo_455 d_Mo_laysSale_42 ?_
          refine V.lmul d_Mo_laysSale_45 ?_
          refine V.goto (tgt := 50) d_Mo_laysSale_46 (by decide) ?_
          exact V.pick [0, 1, 2, 4] rfl (J38_50 _ (Option.some.inj h).symm)
      replace h := h1
      refine V.if_eq (tgt := 30) d_Mo_laysSale_23 (by decide) (fun hc23 => ?_) (fun hc23 => ?_)
      · replace h := ite_t hc23 h
        refine V.lconst (v := 0) d_Mo_laysSale_30 (by decide) ?_
        exact V.pick [0, 1, 2, 3, 4] rfl (J23_31 _ (Option.some.inj h).symm)
      · replace h := ite_f hc23 h
        refine V.lload_n d_Mo_laysSale_26 rfl 3 rfl ?_
        refine V.goto (tgt := 31) d_Mo_laysSale_27 (by decide) ?_
        exact V.pick [0, 1, 2, 3, 4] rfl (J23_31 _ (Option.some.inj h).symm)
def B_Mo_laysSale_l60 (N : Nat) (a1 : Int32) (a2 : Int32) (rec : Int32 → Mem → Option (Mem)) (x5 : Int32) (σ : Mem) : Option (Mem) :=
  if 256 ≤ x5 then
    (some σ)
  else
    (bnd1 ((
      if x5 = 0 then
        (some 0)
      else
        (some (-1))) : Option (Int32)) fun y76_s2 =>
    grd (inb x5 256) <|
    letv (sI σ 95 (x5.toNatClampNeg) y76_s2) fun σ84 =>
    grd (inb x5 256) <|
    letv (sL σ84 96 (x5.toNatClampNeg) 0) fun σ92 =>
    letv (x5 + 1) fun v93 =>
    rec v93 σ92)
def L_Mo_laysSale_l60 (N : Nat) (a1 : Int32) (a2 : Int32) : Nat → Int32 → Mem → Option (Mem)
  | 0, _, _ => none
  | k + 1, x5, σ => B_Mo_laysSale_l60 N a1 a2 (L_Mo_laysSale_l60 N a1 a2 k) x5 σ
set_option maxHeartbeats 4000000 in
set_option maxRecDepth 20000 in
theorem cL_Mo_laysSale_l60 (Z : ZX) {Y : YX} {Q : State → Prop} {N : Nat} {a1 : Int32} {a2 : Int32} {Good : Mem → Prop} (hE : ∀ (σe : Mem), Good σe → V (mkB Z) Y m_Mo_laysSale 4 Q 0 0 nC σe 99 [(0, rf Z 65), (1, .int a1), (2, .int a2)] []) : ∀ (k : Nat) (x5 : Int32) (σ : Mem) (res : Mem), L_Mo_laysSale_l60 N a1 a2 k x5 σ = some res → Good res → V (mkB Z) Y m_Mo_laysSale 4 Q 0 0 nC σ 60 [(0, rf Z 65), (1, .int a1), (2, .int a2), (5, .int x5)] [] := by
  intro k
  induction k with
  | zero => intro x5 σ res h; cases h
  | succ k ih =>
    intro x5 σ res h hg
    replace h : B_Mo_laysSale_l60 N a1 a2 (L_Mo_laysSale_l60 N a1 a2 k) x5 σ = some res := h
    unfold B_Mo_laysSale_l60 at h
    refine V.iload d_Mo_laysSale_60 3 rfl ?_
    refine V.sipush (v := 256) d_Mo_laysSale_62 (by decide) ?_
    refine V.icmp_ge (tgt := 99) d_Mo_laysSale_65 (by decide) (fun hc65 => ?_) (fun hc65 => ?_)
    · replace h := ite_t hc65 h
      cases h
      exact V.pick [0, 1, 2] rfl (hE _ hg)
    · replace h := ite_f hc65 h
      refine V.aload_n d_Mo_laysSale_68 rfl 0 rfl ?_
      refine V.getR (r := 95) ok_Mo fl_Mo_99 (by decide) (by decide) ly_65 rfl d_Mo_laysSale_69 ?_
      refine V.iload d_Mo_laysSale_72 3 rfl ?_
      refine V.iload d_Mo_laysSale_74 3 rfl ?_
      obtain ⟨s76, h1, h⟩ := bnd1_e h
      have J76_84 : ∀ (y76_s2 : Int32), s76 = y76_s2 → V (mkB Z) Y m_Mo_laysSale 4 Q 0 0 nC σ 84 [(0, rf Z 65), (1, .int a1), (2, .int a2), (5, .int x5)] [.int y76_s2, .int x5, rf Z 95] := by
        intro y76_s2 he
        rw [he] at h
        obtain ⟨gq, h⟩ := grd_e h
        obtain ⟨σ84, e_σ84, h⟩ := letv_e h
        refine V.wa (by decide) ly_95 (inb_e gq) rfl d_Mo_laysSale_84 e_σ84 ?_
        refine V.aload_n d_Mo_laysSale_85 rfl 0 rfl ?_
        refine V.getR (r := 96) ok_Mo fl_Mo_102 (by decide) (by decide) ly_65 rfl d_Mo_laysSale_86 ?_
        refine V.iload d_Mo_laysSale_89 3 rfl ?_
        refine V.lconst (v := 0) d_Mo_laysSale_91 (by decide) ?_
        obtain ⟨gq, h⟩ := grd_e h
        obtain ⟨σ92, e_σ92, h⟩ := letv_e h
        refine V.wl (by decide) ly_96 (inb_e gq) rfl d_Mo_laysSale_92 e_σ92 ?_
        obtain ⟨v93, e_v93, h⟩ := letv_e h
        refine V.iinc (v := v93) (lv' := [(5, .int v93), (0, rf Z 65), (1, .int a1), (2, .int a2)]) d_Mo_laysSale_93 3 rfl (by rw [e_v93]; rfl) (by decide) rfl ?_
        refine V.goto (tgt := 60) d_Mo_laysSale_96 (by decide) ?_
        exact V.pick [1, 2, 3, 0] rfl (ih _ _ _ h hg)
      replace h := h1
      refine V.if_ne (tgt := 83) d_Mo_laysSale_76 (by decide) (fun hc76 => ?_) (fun hc76 => ?_)
      · replace h := ite_f hc76 h
        refine V.iconst (v := (-1)) d_Mo_laysSale_83 (by decide) ?_
        exact V.pick [0, 1, 2, 3] rfl (J76_84 _ (Option.some.inj h).symm)
      · replace h := ite_t hc76 h
        refine V.iconst (v := 0) d_Mo_laysSale_79 (by decide) ?_
        refine V.goto (tgt := 84) d_Mo_laysSale_80 (by decide) ?_
        exact V.pick [0, 1, 2, 3] rfl (J76_84 _ (Option.some.inj h).symm)
def B_Mo_laysSale_l126 (N : Nat) (a1 : Int32) (a2 : Int32) (a5 : Int32) (rec : Int32 → Mem → Option (Mem)) (x6 : Int32) (σ : Mem) : Option (Mem) :=
  if 8 ≤ x6 then
    (some σ)
  else
    (bnd1 (f_Mo_has a2 x6) fun r142 =>
    bnd1 ((
      if r142 = 0 then
        (some (0, σ))
      else
        (bnd2 (f_Mo_worthOf N σ x6 a5 a1) fun r154 σ154 =>
        some (r154, σ154))) : Option (Int32 × Mem)) fun s145 =>
    q2 s145 fun y145_s2 σ145_ =>
    grd (inb x6 8) <|
    letv (sI σ145_ 98 (x6.toNatClampNeg) y145_s2) fun σ161 =>
    letv (x6 + 1) fun v162 =>
    rec v162 σ161)
def L_Mo_laysSale_l126 (N : Nat) (a1 : Int32) (a2 : Int32) (a5 : Int32) : Nat → Int32 → Mem → Option (Mem)
  | 0, _, _ => none
  | k + 1, x6, σ => B_Mo_laysSale_l126 N a1 a2 a5 (L_Mo_laysSale_l126 N a1 a2 a5 k) x6 σ
set_option maxHeartbeats 4000000 in
set_option maxRecDepth 20000 in
theorem cL_Mo_laysSale_l126 (Z : ZX) {Y : YX} {Q : State → Prop} {N : Nat} {a1 : Int32} {a2 : Int32} {a5 : Int32} {Good : Mem → Prop} (hE : ∀ (σe : Mem), Good σe → V (mkB Z) Y m_Mo_laysSale 4 Q 0 0 nC σe 168 [(0, rf Z 65), (1, .int a1), (2, .int a2), (5, .int a5)] []) : ∀ (k : Nat) (x6 : Int32) (σ : Mem) (res : Mem), L_Mo_laysSale_l126 N a1 a2 a5 k x6 σ = some res → Good res → V (mkB Z) Y m_Mo_laysSale 4 Q 0 0 nC σ 126 [(0, rf Z 65), (1, .int a1), (2, .int a2), (5, .int a5), (6, .int x6)] [] := by
  intro k
  induction k with
  | zero => intro x6 σ res h; cases h
  | succ k ih =>
    intro x6 σ res h hg
    replace h : B_Mo_laysSale_l126 N a1 a2 a5 (L_Mo_laysSale_l126 N a1 a2 a5 k) x6 σ = some res := h
    unfold B_Mo_laysSale_l126 at h
    refine V.iload d_Mo_laysSale_126 4 rfl ?_
    refine V.bipush (v := 8) d_Mo_laysSale_128 (by decide) ?_
    refine V.icmp_ge (tgt := 168) d_Mo_laysSale_130 (by decide) (fun hc130 => ?_) (fun hc130 => ?_)
    · replace h := ite_t hc130 h
      cases h
      exact V.pick [0, 1, 2, 3] rfl (hE _ hg)
    · replace h := ite_f hc130 h
      refine V.aload_n d_Mo_laysSale_133 rfl 0 rfl ?_
      refine V.getR (r := 98) ok_Mo fl_Mo_109 (by decide) (by decide) ly_65 rfl d_Mo_laysSale_134 ?_
      refine V.iload d_Mo_laysSale_137 4 rfl ?_
      refine V.iload_n d_Mo_laysSale_139 rfl 2 rfl ?_
      refine V.iload d_Mo_laysSale_140 4 rfl ?_
      obtain ⟨r142, h1, h⟩ := bnd1_e h
      refine V.sI (as := [.int a2, .int x6]) (st := [.int x6, rf Z 98]) (c_Mo_has Z h1) k_Mo_has lk_Mo_177 (by decide) rfl rfl (Nat.le_of_ble_eq_true rfl) d_Mo_laysSale_142 ?_
      obtain ⟨s145, h1, h⟩ := bnd1_e h
      have J145_161 : ∀ (y145_s2 : Int32) (σ145_ : Mem), s145 = (y145_s2, σ145_) → V (mkB Z) Y m_Mo_laysSale 4 Q 0 0 nC σ145_ 161 [(0, rf Z 65), (1, .int a1), (2, .int a2), (5, .int a5), (6, .int x6)] [.int y145_s2, .int x6, rf Z 98] := by
        intro y145_s2 σ145_ he
        rw [he] at h
        replace h := q2_e h
        obtain ⟨gq, h⟩ := grd_e h
        obtain ⟨σ161, e_σ161, h⟩ := letv_e h
        refine V.wa (by decide) ly_98 (inb_e gq) rfl d_Mo_laysSale_161 e_σ161 ?_
        obtain ⟨v162, e_v162, h⟩ := letv_e h
        refine V.iinc (v := v162) (lv' := [(6, .int v162), (0, rf Z 65), (1, .int a1), (2, .int a2), (5, .int a5)]) d_Mo_laysSale_162 4 rfl (by rw [e_v162]; rfl) (by decide) rfl ?_
        refine V.goto (tgt := 126) d_Mo_laysSale_165 (by decide) ?_
        exact V.pick [1, 2, 3, 4, 0] rfl (ih _ _ _ h hg)
      replace h := h1
      refine V.if_eq (tgt := 160) d_Mo_laysSale_145 (by decide) (fun hc145 => ?_) (fun hc145 => ?_)
      · replace h := ite_t hc145 h
        refine V.iconst (v := 0) d_Mo_laysSale_160 (by decide) ?_
        exact V.pick [0, 1, 2, 3, 4] rfl (J145_161 _ _ (Option.some.inj h).symm)
      · replace h := ite_f hc145 h
        refine V.aload_n d_Mo_laysSale_148 rfl 0 rfl ?_
        refine V.iload d_Mo_laysSale_149 4 rfl ?_
        refine V.iload d_Mo_laysSale_151 3 rfl ?_
        refine V.iload_n d_Mo_laysSale_153 rfl 1 rfl ?_
        obtain ⟨r154, σ154, h1, h⟩ := bnd2_e h
        refine V.vI (as := [.int x6, .int a5, .int a1]) (st := [.int x6, rf Z 98]) (c_Mo_worthOf Z h1) k_Mo_worthOf lk_Mo_450 (by decide) rfl (by decide) ly_65 ok_Mo.1 rfl (Nat.le_of_ble_eq_true rfl) d_Mo_laysSale_154 ?_
        refine V.goto (tgt := 161) d_Mo_laysSale_157 (by decide) ?_
        exact V.pick [0, 1, 2, 3, 4] rfl (J145_161 _ _ (Option.some.inj h).symm)
def B_Mo_laysSale_l102 (N : Nat) (a1 : Int32) (a2 : Int32) (rec : Int32 → Mem → Option (Mem)) (x5 : Int32) (σ : Mem) : Option (Mem) :=
  if 144 ≤ x5 then
    (some σ)
  else
    (bnd1 (f_Mo_whoOn σ a1 x5) fun r114 =>
    bnd1 ((
      if r114 = 0 then
        (some σ)
      else
        (bnd1 (L_Mo_laysSale_l126 N a1 a2 x5 N 0 σ) fun σ126_ =>
        bnd1 (f_Mo_sells N σ126_ a2 x5) fun σ172 =>
        some σ172)) : Option (Mem)) fun σ117_ =>
    letv (x5 + 1) fun v175 =>
    rec v175 σ117_)
def L_Mo_laysSale_l102 (N : Nat) (a1 : Int32) (a2 : Int32) : Nat → Int32 → Mem → Option (Mem)
  | 0, _, _ => none
  | k + 1, x5, σ => B_Mo_laysSale_l102 N a1 a2 (L_Mo_laysSale_l102 N a1 a2 k) x5 σ
set_option maxHeartbeats 4000000 in
set_option maxRecDepth 20000 in
theorem cL_Mo_laysSale_l102 (Z : ZX) {Y : YX} {Q : State → Prop} {N : Nat} {a1 : Int32} {a2 : Int32} {Good : Mem → Prop} (hE : ∀ (σe : Mem), Good σe → V (mkB Z) Y m_Mo_laysSale 4 Q 0 0 nC σe 181 [(0, rf Z 65), (2, .int a2)] []) : ∀ (k : Nat) (x5 : Int32) (σ : Mem) (res : Mem), L_Mo_laysSale_l102 N a1 a2 k x5 σ = some res → Good res → V (mkB Z) Y m_Mo_laysSale 4 Q 0 0 nC σ 102 [(0, rf Z 65), (1, .int a1), (2, .int a2), (5, .int x5)] [] := by
  intro k
  induction k with
  | zero => intro x5 σ res h; cases h
  | succ k ih =>
    intro x5 σ res h hg
    replace h : B_Mo_laysSale_l102 N a1 a2 (L_Mo_laysSale_l102 N a1 a2 k) x5 σ = some res := h
    unfold B_Mo_laysSale_l102 at h
    refine V.iload d_Mo_laysSale_102 3 rfl ?_
    refine V.sipush (v := 144) d_Mo_laysSale_104 (by decide) ?_
    refine V.icmp_ge (tgt := 181) d_Mo_laysSale_107 (by decide) (fun hc107 => ?_) (fun hc107 => ?_)
    · replace h := ite_t hc107 h
      cases h
      exact V.pick [0, 2] rfl (hE _ hg)
    · replace h := ite_f hc107 h
      refine V.aload_n d_Mo_laysSale_110 rfl 0 rfl ?_
      refine V.iload_n d_Mo_laysSale_111 rfl 1 rfl ?_
      refine V.iload d_Mo_laysSale_112 3 rfl ?_
      obtain ⟨r114, h1, h⟩ := bnd1_e h
      refine V.vI (as := [.int a1, .int x5]) (st := []) (c_Mo_whoOn Z h1) k_Mo_whoOn lk_Mo_373 (by decide) rfl (by decide) ly_65 ok_Mo.1 rfl (Nat.le_of_ble_eq_true rfl) d_Mo_laysSale_114 ?_
      obtain ⟨s117, h1, h⟩ := bnd1_e h
      have J117_175 : ∀ (σ117_ : Mem), s117 = σ117_ → V (mkB Z) Y m_Mo_laysSale 4 Q 0 0 nC σ117_ 175 [(0, rf Z 65), (1, .int a1), (2, .int a2), (5, .int x5)] [] := by
        intro σ117_ he
        rw [he] at h
        obtain ⟨v175, e_v175, h⟩ := letv_e h
        refine V.iinc (v := v175) (lv' := [(5, .int v175), (0, rf Z 65), (1, .int a1), (2, .int a2)]) d_Mo_laysSale_175 3 rfl (by rw [e_v175]; rfl) (by decide) rfl ?_
        refine V.goto (tgt := 102) d_Mo_laysSale_178 (by decide) ?_
        exact V.pick [1, 2, 3, 0] rfl (ih _ _ _ h hg)
      replace h := h1
      refine V.if_ne (tgt := 123) d_Mo_laysSale_117 (by decide) (fun hc117 => ?_) (fun hc117 => ?_)
      · replace h := ite_f hc117 h
        refine V.iconst (v := 0) d_Mo_laysSale_123 (by decide) ?_
        refine V.istore (lv' := [(6, .int 0), (0, rf Z 65), (1, .int a1), (2, .int a2), (5, .int x5)]) d_Mo_laysSale_124 (by decide) rfl ?_
        obtain ⟨x126_, h1, h⟩ := bnd1_e h
        refine V.pick [1, 2, 3, 4, 0] rfl (cL_Mo_laysSale_l126 Z (Good := fun z => x126_ = z) (fun σ126_ he => ?_) N _ _ _ h1 rfl)
        · rw [he] at h
          refine V.aload_n d_Mo_laysSale_168 rfl 0 rfl ?_
          refine V.iload_n d_Mo_laysSale_169 rfl 2 rfl ?_
          refine V.iload d_Mo_laysSale_170 3 rfl ?_
          obtain ⟨σ172, h1, h⟩ := bnd1_e h
          refine V.vN (as := [.int a2, .int x5]) (st := []) (c_Mo_sells Z h1) k_Mo_sells lk_Mo_457 (by decide) rfl (by decide) ly_65 ok_Mo.1 rfl (Nat.le_of_ble_eq_true rfl) d_Mo_laysSale_172 ?_
          exact V.pick [0, 1, 2, 3] rfl (J117_175 _ (Option.some.inj h).symm)
      · replace h := ite_t hc117 h
        refine V.goto (tgt := 175) d_Mo_laysSale_120 (by decide) ?_
        exact V.pick [0, 1, 2, 3] rfl (J117_175 _ (Option.some.inj h).symm)
def B_Mo_laysSale_l189 (N : Nat) (a2 : Int32) (rec : Int32 → Mem → Option (Mem)) (x5 : Int32) (σ : Mem) : Option (Mem) :=
  if a2 < x5 then
    (some σ)
  else
    (bnd1 ((
      bnd1 ((
        if (x5 &&& (a2 ^^^ (-1))) = 0 then
          (grd (inb x5 256) <|
          if 0 ≤ (mI σ 95 (x5.toNatClampNeg)) then
            (bnd1 (f_Mo_keyOf N σ a2 x5) fun r221 =>
            grd (inb x5 256) <|
            if (mI σ 95 (x5.toNatClampNeg)) < (mI σ 65 53) then
              (some (0, r221))
            else
              (grd (inb x5 256) <|
              if (mI σ 95 (x5.toNatClampNeg)) = (mI σ 65 53) then
                (if (lg_cmp r221 (mL σ 65 54)) < 0 then
                  (some (1, r221))
                else
                  (some (0, r221)))
              else
                (some (1, r221))))
          else
            (some (0, 0)))
        else
          (some (0, 0))) : Option (Nat × Int64)) fun s201b =>
      q2 s201b fun t201b y201b_6 =>
      if t201b = 0 then
        (some σ)
      else
      (grd (inb x5 256) <|
      letv (sI σ 65 53 (mI σ 95 (x5.toNatClampNeg))) fun σ275 =>
      letv (sL σ275 65 54 y201b_6) fun σ281 =>
      some σ281)) : Option (Mem)) fun σ201_ =>
    letv (x5 + 1) fun v284 =>
    rec v284 σ201_)
def L_Mo_laysSale_l189 (N : Nat) (a2 : Int32) : Nat → Int32 → Mem → Option (Mem)
  | 0, _, _ => none
  | k + 1, x5, σ => B_Mo_laysSale_l189 N a2 (L_Mo_laysSale_l189 N a2 k) x5 σ
set_option maxHeartbeats 4000000 in
set_option maxRecDepth 20000 in
theorem cL_Mo_laysSale_l189 (Z : ZX) {Y : YX} {post : Option Value → Mem → Prop} {N : Nat} {a2 : Int32} {Good : Mem → Prop} (hR : ∀ (σr : Mem), Good σr → post none σr) : ∀ (k : Nat) (x5 : Int32) (σ : Mem) (res : Mem), L_Mo_laysSale_l189 N a2 k x5 σ = some res → Good res → V (mkB Z) Y m_Mo_laysSale 4 (QP (mkB Z) Y nC 0 0 post) 0 0 nC σ 189 [(0, rf Z 65), (2, .int a2), (5, .int x5)] [] := by
  intro k
  induction k with
  | zero => intro x5 σ res h; cases h
  | succ k ih =>
    intro x5 σ res h hg
    replace h : B_Mo_laysSale_l189 N a2 (L_Mo_laysSale_l189 N a2 k) x5 σ = some res := h
    unfold B_Mo_laysSale_l189 at h
    refine V.iload d_Mo_laysSale_189 2 rfl ?_
    refine V.iload_n d_Mo_laysSale_191 rfl 1 rfl ?_
    refine V.icmp_gt (tgt := 290) d_Mo_laysSale_192 (by decide) (fun hc192 => ?_) (fun hc192 => ?_)
    · replace h := ite_t hc192 h
      cases h
      exact V.vret rfl d_Mo_laysSale_290 (hR _ hg)
    · replace h := ite_f hc192 h
      refine V.iload d_Mo_laysSale_195 2 rfl ?_
      refine V.iload_n d_Mo_laysSale_197 rfl 1 rfl ?_
      refine V.iconst (v := (-1)) d_Mo_laysSale_198 (by decide) ?_
      refine V.ixor d_Mo_laysSale_199 ?_
      refine V.iand d_Mo_laysSale_200 ?_
      obtain ⟨s201, h1, h⟩ := bnd1_e h
      have J201_284 : ∀ (σ201_ : Mem), s201 = σ201_ → V (mkB Z) Y m_Mo_laysSale 4 (QP (mkB Z) Y nC 0 0 post) 0 0 nC σ201_ 284 [(0, rf Z 65), (2, .int a2), (5, .int x5)] [] := by
        intro σ201_ he
        rw [he] at h
        obtain ⟨v284, e_v284, h⟩ := letv_e h
        refine V.iinc (v := v284) (lv' := [(5, .int v284), (0, rf Z 65), (2, .int a2)]) d_Mo_laysSale_284 2 rfl (by rw [e_v284]; rfl) (by decide) rfl ?_
        refine V.goto (tgt := 189) d_Mo_laysSale_287 (by decide) ?_
        exact V.pick [1, 2, 0] rfl (ih _ _ _ h hg)
      replace h := h1
      obtain ⟨s201b, h1, h⟩ := bnd1_e h
      have J201b_284 : ∀ (y201b_6 : Int64), s201b = (0, y201b_6) → V (mkB Z) Y m_Mo_laysSale 4 (QP (mkB Z) Y nC 0 0 post) 0 0 nC σ 284 [(0, rf Z 65), (2, .int a2), (5, .int x5)] [] := by
        intro y201b_6 he
        rw [he] at h
        replace h := q2_e h
        replace h := ite_t rfl h
        exact V.pick [0, 1, 2] rfl (J201_284 _ (Option.some.inj h).symm)
      have J201b_267 : ∀ (y201b_6 : Int64), s201b = (1, y201b_6) → V (mkB Z) Y m_Mo_laysSale 4 (QP (mkB Z) Y nC 0 0 post) 0 0 nC σ 267 [(0, rf Z 65), (2, .int a2), (5, .int x5), (6, .long y201b_6)] [] := by
        intro y201b_6 he
        rw [he] at h
        replace h := q2_e h
        replace h := ite_f (by decide) h
        refine V.aload_n d_Mo_laysSale_267 rfl 0 rfl ?_
        refine V.aload_n d_Mo_laysSale_268 rfl 0 rfl ?_
        refine V.getR (r := 95) ok_Mo fl_Mo_99 (by decide) (by decide) ly_65 rfl d_Mo_laysSale_269 ?_
        refine V.iload d_Mo_laysSale_272 2 rfl ?_
        obtain ⟨gq, h⟩ := grd_e h
        refine V.ra (by decide) ly_95 (inb_e gq) rfl d_Mo_laysSale_274 ?_
        obtain ⟨σ275, e_σ275, h⟩ := letv_e h
        refine V.putI ok_Mo fl_Mo_460 (by decide) (by decide) ly_65 rfl rfl rfl rfl d_Mo_laysSale_275 (V.mem e_σ275 ?_)
        refine V.aload_n d_Mo_laysSale_278 rfl 0 rfl ?_
        refine V.lload d_Mo_laysSale_279 3 rfl ?_
        obtain ⟨σ281, e_σ281, h⟩ := letv_e h
        refine V.putL ok_Mo fl_Mo_467 (by decide) (by decide) ly_65 rfl rfl rfl rfl d_Mo_laysSale_281 (V.mem e_σ281 ?_)
        exact V.pick [0, 1, 2] rfl (J201_284 _ (Option.some.inj h).symm)
      replace h := h1
      refine V.if_ne (tgt := 284) d_Mo_laysSale_201 (by decide) (fun hc201 => ?_) (fun hc201 => ?_)
      · replace h := ite_f hc201 h
        exact V.pick [0, 1, 2] rfl (J201b_284 _ (Option.some.inj h).symm)
      · replace h := ite_t hc201 h
        refine V.aload_n d_Mo_laysSale_204 rfl 0 rfl ?_
        refine V.getR (r := 95) ok_Mo fl_Mo_99 (by decide) (by decide) ly_65 rfl d_Mo_laysSale_205 ?_
        refine V.iload d_Mo_laysSale_208 2 rfl ?_
        obtain ⟨gq, h⟩ := grd_e h
        refine V.ra (by decide) ly_95 (inb_e gq) rfl d_Mo_laysSale_210 ?_
        refine V.if_ge (tgt := 217) d_Mo_laysSale_211 (by decide) (fun hc211 => ?_) (fun hc211 => ?_)
        · replace h := ite_t hc211 h
          refine V.aload_n d_Mo_laysSale_217 rfl 0 rfl ?_
          refine V.iload_n d_Mo_laysSale_218 rfl 1 rfl ?_
          refine V.iload d_Mo_laysSale_219 2 rfl ?_
          obtain ⟨r221, h1, h⟩ := bnd1_e h
          refine V.vJ (as := [.int a2, .int x5]) (st := []) (c_Mo_keyOf Z h1) k_Mo_keyOf lk_Mo_463 (by decide) rfl (by decide) ly_65 ok_Mo.1 rfl (Nat.le_of_ble_eq_true rfl) d_Mo_laysSale_221 ?_
          refine V.lstore (lv' := [(6, .long r221), (0, rf Z 65), (2, .int a2), (5, .int x5)]) d_Mo_laysSale_224 (by decide) rfl ?_
          refine V.aload_n d_Mo_laysSale_226 rfl 1 rfl ?_
          refine V.getR (r := 95) ok_Mo fl_Mo_99 (by decide) (by decide) ly_65 rfl d_Mo_laysSale_227 ?_
          refine V.iload d_Mo_laysSale_230 3 rfl ?_
          obtain ⟨gq, h⟩ := grd_e h
          refine V.ra (by decide) ly_95 (inb_e gq) rfl d_Mo_laysSale_232 ?_
          refine V.aload_n d_Mo_laysSale_233 rfl 1 rfl ?_
          refine V.getI ok_Mo fl_Mo_460 (by decide) (by decide) ly_65 rfl d_Mo_laysSale_234 ?_
          refine V.icmp_lt (tgt := 284) d_Mo_laysSale_237 (by decide) (fun hc237 => ?_) (fun hc237 => ?_)
          · replace h := ite_t hc237 h
            exact V.pick [1, 2, 3] rfl (J201b_284 _ (Option.some.inj h).symm)
          · replace h := ite_f hc237 h
            refine V.aload_n d_Mo_laysSale_240 rfl 1 rfl ?_
            refine V.getR (r := 95) ok_Mo fl_Mo_99 (by decide) (by decide) ly_65 rfl d_Mo_laysSale_241 ?_
            refine V.iload d_Mo_laysSale_244 3 rfl ?_
            obtain ⟨gq, h⟩ := grd_e h
            refine V.ra (by decide) ly_95 (inb_e gq) rfl d_Mo_laysSale_246 ?_
            refine V.aload_n d_Mo_laysSale_247 rfl 1 rfl ?_
            refine V.getI ok_Mo fl_Mo_460 (by decide) (by decide) ly_65 rfl d_Mo_laysSale_248 ?_
            refine V.icmp_ne (tgt := 267) d_Mo_laysSale_251 (by decide) (fun hc251 => ?_) (fun hc251 => ?_)
            · replace h := ite_f hc251 h
              exact V.pick [1, 2, 3, 0] rfl (J201b_267 _ (Option.some.inj h).symm)
            · replace h := ite_t hc251 h
              refine V.lload d_Mo_laysSale_254 0 rfl ?_
              refine V.aload_n d_Mo_laysSale_256 rfl 1 rfl ?_
              refine V.getL ok_Mo fl_Mo_467 (by decide) (by decide) ly_65 rfl d_Mo_laysSale_257 ?_
              refine V.lcmp d_Mo_laysSale_260 ?_
              refine V.if_lt (tgt := 267) d_Mo_laysSale_261 (by decide) (fun hc261 => ?_) (fun hc261 => ?_)
              · replace h := ite_t hc261 h
                exact V.pick [1, 2, 3, 0] rfl (J201b_267 _ (Option.some.inj h).symm)
              · replace h := ite_f hc261 h
                refine V.goto (tgt := 284) d_Mo_laysSale_264 (by decide) ?_
                exact V.pick [1, 2, 3] rfl (J201b_284 _ (Option.some.inj h).symm)
        · replace h := ite_f hc211 h
          refine V.goto (tgt := 284) d_Mo_laysSale_214 (by decide) ?_
          exact V.pick [0, 1, 2] rfl (J201b_284 _ (Option.some.inj h).symm)
def f_Mo_laysSale (N : Nat) (σ : Mem) (a1 : Int32) (a2 : Int32) : Option (Mem) :=
  bnd1 (L_Mo_laysSale_l6 N a1 a2 N 1 7 σ) fun σ6_ =>
  bnd1 (L_Mo_laysSale_l60 N a1 a2 N 0 σ6_) fun σ60_ =>
  bnd1 (L_Mo_laysSale_l102 N a1 a2 N 0 σ60_) fun σ102_ =>
  letv (sI σ102_ 65 53 (-1)) fun σ183 =>
  L_Mo_laysSale_l189 N a2 N 0 σ183
set_option maxHeartbeats 4000000 in
set_option maxRecDepth 20000 in
theorem c_Mo_laysSale (Z : ZX) {N : Nat} {σ : Mem} {a1 : Int32} {a2 : Int32} {σ' : Mem} (h : f_Mo_laysSale N σ a1 a2 = some σ') : CN Z 4 m_Mo_laysSale [rf Z 65, .int a1, .int a2] σ σ' := by
  refine Ct.of (by decide +kernel) (Nat.le_of_ble_eq_true rfl) (fun Y => ?_)
  show V (mkB Z) Y m_Mo_laysSale 4 (QP (mkB Z) Y nC 0 0 (fun v t => v = none ∧ t = σ')) 0 0 nC σ 0 [(0, rf Z 65), (1, .int a1), (2, .int a2)] []
  unfold f_Mo_laysSale at h
  refine V.lconst (v := 1) d_Mo_laysSale_0 (by decide) ?_
  refine V.lstore_n (lv' := [(3, .long 1), (0, rf Z 65), (1, .int a1), (2, .int a2)]) d_Mo_laysSale_1 rfl (by decide) rfl ?_
  refine V.bipush (v := 7) d_Mo_laysSale_2 (by decide) ?_
  refine V.istore (lv' := [(5, .int 7), (3, .long 1), (0, rf Z 65), (1, .int a1), (2, .int a2)]) d_Mo_laysSale_4 (by decide) rfl ?_
  obtain ⟨x6_, h1, h⟩ := bnd1_e h
  refine V.pick [2, 3, 4, 1, 0] rfl (cL_Mo_laysSale_l6 Z (Good := fun z => x6_ = z) (fun σ6_ he => ?_) N _ _ _ _ h1 rfl)
  · rw [he] at h
    refine V.iconst (v := 0) d_Mo_laysSale_57 (by decide) ?_
    refine V.istore (lv' := [(5, .int 0), (0, rf Z 65), (1, .int a1), (2, .int a2)]) d_Mo_laysSale_58 (by decide) rfl ?_
    obtain ⟨x60_, h1, h⟩ := bnd1_e h
    refine V.pick [1, 2, 3, 0] rfl (cL_Mo_laysSale_l60 Z (Good := fun z => x60_ = z) (fun σ60_ he => ?_) N _ _ _ h1 rfl)
    · rw [he] at h
      refine V.iconst (v := 0) d_Mo_laysSale_99 (by decide) ?_
      refine V.istore (lv' := [(5, .int 0), (0, rf Z 65), (1, .int a1), (2, .int a2)]) d_Mo_laysSale_100 (by decide) rfl ?_
      obtain ⟨x102_, h1, h⟩ := bnd1_e h
      refine V.pick [1, 2, 3, 0] rfl (cL_Mo_laysSale_l102 Z (Good := fun z => x102_ = z) (fun σ102_ he => ?_) N _ _ _ h1 rfl)
      · rw [he] at h
        refine V.aload_n d_Mo_laysSale_181 rfl 0 rfl ?_
        refine V.iconst (v := (-1)) d_Mo_laysSale_182 (by decide) ?_
        obtain ⟨σ183, e_σ183, h⟩ := letv_e h
        refine V.putI ok_Mo fl_Mo_460 (by decide) (by decide) ly_65 rfl rfl rfl rfl d_Mo_laysSale_183 (V.mem e_σ183 ?_)
        refine V.iconst (v := 0) d_Mo_laysSale_186 (by decide) ?_
        refine V.istore (lv' := [(5, .int 0), (0, rf Z 65), (2, .int a2)]) d_Mo_laysSale_187 (by decide) rfl ?_
        refine V.pick [1, 2, 0] rfl (cL_Mo_laysSale_l189 Z (Good := fun z => z = _) (fun r189m he => ?_) N _ _ _ h rfl)
        · cases he
          exact ⟨rfl, rfl⟩
abbrev m_Mo_saleWithout : MI := (⟨"ShadeTownModel", "saleWithout", "(III)I"⟩, prog_13_method_93_code, 4, (Option.some Jvm.ClassFile.FieldType.int))
theorem d_Mo_saleWithout_0 : decode prog_13_method_93_code 0 = .ok (.aload_n 0, 1) := by decide +kernel
theorem d_Mo_saleWithout_1 : decode prog_13_method_93_code 1 = .ok (.iload_n 1, 1) := by decide +kernel
theorem d_Mo_saleWithout_2 : decode prog_13_method_93_code 2 = .ok (.iload_n 2, 1) := by decide +kernel
theorem d_Mo_saleWithout_3 : decode prog_13_method_93_code 3 = .ok (.iconst 1, 1) := by decide +kernel
theorem d_Mo_saleWithout_4 : decode prog_13_method_93_code 4 = .ok (.iload_n 3, 1) := by decide +kernel
theorem d_Mo_saleWithout_5 : decode prog_13_method_93_code 5 = .ok (.ishl, 1) := by decide +kernel
theorem d_Mo_saleWithout_6 : decode prog_13_method_93_code 6 = .ok (.iconst (-1), 1) := by decide +kernel
theorem d_Mo_saleWithout_7 : decode prog_13_method_93_code 7 = .ok (.ixor, 1) := by decide +kernel
theorem d_Mo_saleWithout_8 : decode prog_13_method_93_code 8 = .ok (.iand, 1) := by decide +kernel
theorem d_Mo_saleWithout_9 : decode prog_13_method_93_code 9 = .ok (.invokevirtual 471, 3) := by decide +kernel
theorem k_Mo_laysSale : MOk m_Mo_laysSale 2 ∧ IOk m_Mo_laysSale := ⟨⟨atG 1916 (by decide +kernel) rfl, atG 122 (by decide +kernel) rfl, ⟨by decide, by decide⟩, by decide +kernel, by decide⟩, atG 1915 (by decide +kernel) rfl, atG 93 (by decide +kernel) rfl⟩
theorem lk_Mo_471 : Cond.methodLink "ShadeTownModel" 471 ⟨"ShadeTownModel", "laysSale", "(II)V"⟩ ∈ tblG := atG 1913 (by decide +kernel) rfl
theorem d_Mo_saleWithout_12 : decode prog_13_method_93_code 12 = .ok (.aload_n 0, 1) := by decide +kernel
theorem d_Mo_saleWithout_13 : decode prog_13_method_93_code 13 = .ok (.getfield 460, 3) := by decide +kernel
theorem d_Mo_saleWithout_16 : decode prog_13_method_93_code 16 = .ok (.ireturn, 1) := by decide +kernel
def f_Mo_saleWithout (N : Nat) (σ : Mem) (a1 : Int32) (a2 : Int32) (a3 : Int32) : Option (Int32 × Mem) :=
  bnd1 (f_Mo_laysSale N σ a1 (a2 &&& ((1 <<< (a3 &&& 31)) ^^^ (-1)))) fun σ9 =>
  some (mI σ9 65 53, σ9)
set_option maxHeartbeats 4000000 in
set_option maxRecDepth 20000 in
theorem c_Mo_saleWithout (Z : ZX) {N : Nat} {σ : Mem} {a1 : Int32} {a2 : Int32} {a3 : Int32} {r : Int32} {σ' : Mem} (h : f_Mo_saleWithout N σ a1 a2 a3 = some (r, σ')) : CI Z 5 m_Mo_saleWithout [rf Z 65, .int a1, .int a2, .int a3] σ r σ' := by
  refine Ct.of (by decide +kernel) (Nat.le_of_ble_eq_true rfl) (fun Y => ?_)
  show V (mkB Z) Y m_Mo_saleWithout 5 (QP (mkB Z) Y nC 0 0 (fun v t => v = some (.int r) ∧ t = σ')) 0 0 nC σ 0 [(0, rf Z 65), (1, .int a1), (2, .int a2), (3, .int a3)] []
  unfold f_Mo_saleWithout at h
  refine V.aload_n d_Mo_saleWithout_0 rfl 0 rfl ?_
  refine V.iload_n d_Mo_saleWithout_1 rfl 1 rfl ?_
  refine V.iload_n d_Mo_saleWithout_2 rfl 2 rfl ?_
  refine V.iconst (v := 1) d_Mo_saleWithout_3 (by decide) ?_
  refine V.iload_n d_Mo_saleWithout_4 rfl 3 rfl ?_
  refine V.ishl d_Mo_saleWithout_5 ?_
  refine V.iconst (v := (-1)) d_Mo_saleWithout_6 (by decide) ?_
  refine V.ixor d_Mo_saleWithout_7 ?_
  refine V.iand d_Mo_saleWithout_8 ?_
  obtain ⟨σ9, h1, h⟩ := bnd1_e h
  refine V.vN (as := [.int a1, .int (a2 &&& ((1 <<< (a3 &&& 31)) ^^^ (-1)))]) (st := []) (c_Mo_laysSale Z h1) k_Mo_laysSale lk_Mo_471 (by decide) rfl (by decide) ly_65 ok_Mo.1 rfl (Nat.le_of_ble_eq_true rfl) d_Mo_saleWithout_9 ?_
  refine V.aload_n d_Mo_saleWithout_12 rfl 0 rfl ?_
  refine V.getI ok_Mo fl_Mo_460 (by decide) (by decide) ly_65 rfl d_Mo_saleWithout_13 ?_
  cases h
  exact V.iret rfl d_Mo_saleWithout_16 ⟨rfl, rfl⟩
abbrev m_Mo_sale : MI := (⟨"ShadeTownModel", "sale", "(III)I"⟩, prog_13_method_94_code, 9, (Option.some Jvm.ClassFile.FieldType.int))
theorem d_Mo_sale_0 : decode prog_13_method_94_code 0 = .ok (.iload_n 3, 1) := by decide +kernel
theorem d_Mo_sale_1 : decode prog_13_method_94_code 1 = .ok (.iconst (-1), 1) := by decide +kernel
theorem d_Mo_sale_5 : decode prog_13_method_94_code 5 = .ok (.iload_n 3, 1) := by decide +kernel
theorem d_Mo_sale_6 : decode prog_13_method_94_code 6 = .ok (.iconst 0, 1) := by decide +kernel
theorem d_Mo_sale_7 : decode prog_13_method_94_code 7 = .ok (.bipush 7, 2) := by decide +kernel
theorem d_Mo_sale_9 : decode prog_13_method_94_code 9 = .ok (.invokestatic 188, 3) := by decide +kernel
theorem d_Mo_sale_15 : decode prog_13_method_94_code 15 = .ok (.iload_n 2, 1) := by decide +kernel
theorem d_Mo_sale_16 : decode prog_13_method_94_code 16 = .ok (.iload_n 3, 1) := by decide +kernel
theorem d_Mo_sale_17 : decode prog_13_method_94_code 17 = .ok (.invokestatic 177, 3) := by decide +kernel
theorem d_Mo_sale_20 : decode prog_13_method_94_code 20 = .ok (.ifCond .ne 25, 3) := by decide +kernel
theorem d_Mo_sale_12 : decode prog_13_method_94_code 12 = .ok (.ifCond .eq 11, 3) := by decide +kernel
theorem d_Mo_sale_2 : decode prog_13_method_94_code 2 = .ok (.if_icmp .eq 43, 3) := by decide +kernel
theorem d_Mo_sale_45 : decode prog_13_method_94_code 45 = .ok (.iconst 1, 1) := by decide +kernel
theorem d_Mo_sale_46 : decode prog_13_method_94_code 46 = .ok (.goto 4, 3) := by decide +kernel
theorem d_Mo_sale_23 : decode prog_13_method_94_code 23 = .ok (.iload_n 3, 1) := by decide +kernel
theorem d_Mo_sale_24 : decode prog_13_method_94_code 24 = .ok (.bipush 10, 2) := by decide +kernel
theorem d_Mo_sale_26 : decode prog_13_method_94_code 26 = .ok (.bipush 17, 2) := by decide +kernel
theorem d_Mo_sale_28 : decode prog_13_method_94_code 28 = .ok (.invokestatic 188, 3) := by decide +kernel
theorem d_Mo_sale_34 : decode prog_13_method_94_code 34 = .ok (.iload_n 2, 1) := by decide +kernel
theorem d_Mo_sale_35 : decode prog_13_method_94_code 35 = .ok (.iload_n 3, 1) := by decide +kernel
theorem d_Mo_sale_36 : decode prog_13_method_94_code 36 = .ok (.bipush 10, 2) := by decide +kernel
theorem d_Mo_sale_38 : decode prog_13_method_94_code 38 = .ok (.isub, 1) := by decide +kernel
theorem d_Mo_sale_39 : decode prog_13_method_94_code 39 = .ok (.invokestatic 177, 3) := by decide +kernel
theorem d_Mo_sale_42 : decode prog_13_method_94_code 42 = .ok (.ifCond .eq 7, 3) := by decide +kernel
theorem d_Mo_sale_31 : decode prog_13_method_94_code 31 = .ok (.ifCond .eq 18, 3) := by decide +kernel
theorem d_Mo_sale_49 : decode prog_13_method_94_code 49 = .ok (.iconst 0, 1) := by decide +kernel
theorem d_Mo_sale_50 : decode prog_13_method_94_code 50 = .ok (.istore 4, 2) := by decide +kernel
theorem d_Mo_sale_52 : decode prog_13_method_94_code 52 = .ok (.iload_n 1, 1) := by decide +kernel
theorem d_Mo_sale_53 : decode prog_13_method_94_code 53 = .ok (.invokestatic 321, 3) := by decide +kernel
theorem d_Mo_sale_75 : decode prog_13_method_94_code 75 = .ok (.bipush (-3), 2) := by decide +kernel
theorem d_Mo_sale_77 : decode prog_13_method_94_code 77 = .ok (.ireturn, 1) := by decide +kernel
theorem d_Mo_sale_59 : decode prog_13_method_94_code 59 = .ok (.iload_n 2, 1) := by decide +kernel
theorem d_Mo_sale_60 : decode prog_13_method_94_code 60 = .ok (.iconst 1, 1) := by decide +kernel
theorem d_Mo_sale_61 : decode prog_13_method_94_code 61 = .ok (.sipush 255, 3) := by decide +kernel
theorem d_Mo_sale_64 : decode prog_13_method_94_code 64 = .ok (.invokestatic 188, 3) := by decide +kernel
theorem d_Mo_sale_70 : decode prog_13_method_94_code 70 = .ok (.iload 4, 2) := by decide +kernel
theorem d_Mo_sale_78 : decode prog_13_method_94_code 78 = .ok (.iload_n 2, 1) := by decide +kernel
theorem d_Mo_sale_79 : decode prog_13_method_94_code 79 = .ok (.aload_n 0, 1) := by decide +kernel
theorem d_Mo_sale_80 : decode prog_13_method_94_code 80 = .ok (.getfield 444, 3) := by decide +kernel
theorem d_Mo_sale_83 : decode prog_13_method_94_code 83 = .ok (.iconst (-1), 1) := by decide +kernel
theorem d_Mo_sale_84 : decode prog_13_method_94_code 84 = .ok (.ixor, 1) := by decide +kernel
theorem d_Mo_sale_85 : decode prog_13_method_94_code 85 = .ok (.iand, 1) := by decide +kernel
theorem d_Mo_sale_92 : decode prog_13_method_94_code 92 = .ok (.aload_n 0, 1) := by decide +kernel
theorem d_Mo_sale_93 : decode prog_13_method_94_code 93 = .ok (.invokevirtual 370, 3) := by decide +kernel
theorem d_Mo_sale_96 : decode prog_13_method_94_code 96 = .ok (.aload_n 0, 1) := by decide +kernel
theorem d_Mo_sale_97 : decode prog_13_method_94_code 97 = .ok (.iload_n 1, 1) := by decide +kernel
theorem d_Mo_sale_98 : decode prog_13_method_94_code 98 = .ok (.iload_n 2, 1) := by decide +kernel
theorem d_Mo_sale_99 : decode prog_13_method_94_code 99 = .ok (.invokevirtual 471, 3) := by decide +kernel
theorem d_Mo_sale_102 : decode prog_13_method_94_code 102 = .ok (.iload_n 3, 1) := by decide +kernel
theorem d_Mo_sale_103 : decode prog_13_method_94_code 103 = .ok (.iconst (-1), 1) := by decide +kernel
theorem d_Mo_sale_112 : decode prog_13_method_94_code 112 = .ok (.iload_n 3, 1) := by decide +kernel
theorem d_Mo_sale_113 : decode prog_13_method_94_code 113 = .ok (.bipush 10, 2) := by decide +kernel
theorem d_Mo_sale_122 : decode prog_13_method_94_code 122 = .ok (.iload_n 3, 1) := by decide +kernel
theorem d_Mo_sale_123 : decode prog_13_method_94_code 123 = .ok (.bipush 10, 2) := by decide +kernel
theorem d_Mo_sale_125 : decode prog_13_method_94_code 125 = .ok (.isub, 1) := by decide +kernel
theorem d_Mo_sale_118 : decode prog_13_method_94_code 118 = .ok (.iload_n 3, 1) := by decide +kernel
theorem d_Mo_sale_119 : decode prog_13_method_94_code 119 = .ok (.goto 7, 3) := by decide +kernel
theorem d_Mo_sale_115 : decode prog_13_method_94_code 115 = .ok (.if_icmp .ge 7, 3) := by decide +kernel
theorem d_Mo_sale_126 : decode prog_13_method_94_code 126 = .ok (.istore 5, 2) := by decide +kernel
theorem d_Mo_sale_128 : decode prog_13_method_94_code 128 = .ok (.aload_n 0, 1) := by decide +kernel
theorem d_Mo_sale_129 : decode prog_13_method_94_code 129 = .ok (.getfield 467, 3) := by decide +kernel
theorem d_Mo_sale_132 : decode prog_13_method_94_code 132 = .ok (.aload_n 0, 1) := by decide +kernel
theorem d_Mo_sale_133 : decode prog_13_method_94_code 133 = .ok (.getfield 106, 3) := by decide +kernel
theorem d_Mo_sale_136 : decode prog_13_method_94_code 136 = .ok (.iload 5, 2) := by decide +kernel
theorem d_Mo_sale_138 : decode prog_13_method_94_code 138 = .ok (.laload, 1) := by decide +kernel
theorem d_Mo_sale_139 : decode prog_13_method_94_code 139 = .ok (.ldiv, 1) := by decide +kernel
theorem d_Mo_sale_140 : decode prog_13_method_94_code 140 = .ok (.ldc2_w 455, 3) := by decide +kernel
theorem d_Mo_sale_143 : decode prog_13_method_94_code 143 = .ok (.lrem, 1) := by decide +kernel
theorem d_Mo_sale_144 : decode prog_13_method_94_code 144 = .ok (.l2i, 1) := by decide +kernel
theorem d_Mo_sale_145 : decode prog_13_method_94_code 145 = .ok (.istore 6, 2) := by decide +kernel
theorem d_Mo_sale_147 : decode prog_13_method_94_code 147 = .ok (.iload_n 3, 1) := by decide +kernel
theorem d_Mo_sale_148 : decode prog_13_method_94_code 148 = .ok (.bipush 10, 2) := by decide +kernel
theorem d_Mo_sale_156 : decode prog_13_method_94_code 156 = .ok (.iload 6, 2) := by decide +kernel
theorem d_Mo_sale_158 : decode prog_13_method_94_code 158 = .ok (.sipush 144, 3) := by decide +kernel
theorem d_Mo_sale_168 : decode prog_13_method_94_code 168 = .ok (.aload_n 0, 1) := by decide +kernel
theorem d_Mo_sale_169 : decode prog_13_method_94_code 169 = .ok (.iload 5, 2) := by decide +kernel
theorem d_Mo_sale_171 : decode prog_13_method_94_code 171 = .ok (.iload 6, 2) := by decide +kernel
theorem d_Mo_sale_173 : decode prog_13_method_94_code 173 = .ok (.iload_n 1, 1) := by decide +kernel
theorem d_Mo_sale_174 : decode prog_13_method_94_code 174 = .ok (.invokevirtual 450, 3) := by decide +kernel
theorem d_Mo_sale_164 : decode prog_13_method_94_code 164 = .ok (.iconst 0, 1) := by decide +kernel
theorem d_Mo_sale_165 : decode prog_13_method_94_code 165 = .ok (.goto 12, 3) := by decide +kernel
theorem d_Mo_sale_161 : decode prog_13_method_94_code 161 = .ok (.if_icmp .ne 7, 3) := by decide +kernel
theorem d_Mo_sale_177 : decode prog_13_method_94_code 177 = .ok (.istore 7, 2) := by decide +kernel
theorem d_Mo_sale_179 : decode prog_13_method_94_code 179 = .ok (.aload_n 0, 1) := by decide +kernel
theorem d_Mo_sale_180 : decode prog_13_method_94_code 180 = .ok (.getfield 460, 3) := by decide +kernel
theorem d_Mo_sale_183 : decode prog_13_method_94_code 183 = .ok (.iload 7, 2) := by decide +kernel
theorem d_Mo_sale_185 : decode prog_13_method_94_code 185 = .ok (.isub, 1) := by decide +kernel
theorem d_Mo_sale_186 : decode prog_13_method_94_code 186 = .ok (.istore 8, 2) := by decide +kernel
theorem d_Mo_sale_188 : decode prog_13_method_94_code 188 = .ok (.aload_n 0, 1) := by decide +kernel
theorem d_Mo_sale_189 : decode prog_13_method_94_code 189 = .ok (.iload_n 1, 1) := by decide +kernel
theorem d_Mo_sale_190 : decode prog_13_method_94_code 190 = .ok (.iload_n 2, 1) := by decide +kernel
theorem d_Mo_sale_191 : decode prog_13_method_94_code 191 = .ok (.iload 5, 2) := by decide +kernel
theorem d_Mo_sale_193 : decode prog_13_method_94_code 193 = .ok (.invokevirtual 474, 3) := by decide +kernel
theorem k_Mo_saleWithout : MOk m_Mo_saleWithout 3 ∧ IOk m_Mo_saleWithout := ⟨⟨atG 1930 (by decide +kernel) rfl, atG 122 (by decide +kernel) rfl, ⟨by decide, by decide⟩, by decide +kernel, by decide⟩, atG 1929 (by decide +kernel) rfl, atG 96 (by decide +kernel) rfl⟩
theorem lk_Mo_474 : Cond.methodLink "ShadeTownModel" 474 ⟨"ShadeTownModel", "saleWithout", "(III)I"⟩ ∈ tblG := atG 1927 (by decide +kernel) rfl
theorem d_Mo_sale_196 : decode prog_13_method_94_code 196 = .ok (.iload 8, 2) := by decide +kernel
theorem d_Mo_sale_198 : decode prog_13_method_94_code 198 = .ok (.isub, 1) := by decide +kernel
theorem d_Mo_sale_199 : decode prog_13_method_94_code 199 = .ok (.ireturn, 1) := by decide +kernel
theorem d_Mo_sale_153 : decode prog_13_method_94_code 153 = .ok (.iload 6, 2) := by decide +kernel
theorem d_Mo_sale_155 : decode prog_13_method_94_code 155 = .ok (.ireturn, 1) := by decide +kernel
theorem d_Mo_sale_150 : decode prog_13_method_94_code 150 = .ok (.if_icmp .ge 6, 3) := by decide +kernel
theorem d_Mo_sale_107 : decode prog_13_method_94_code 107 = .ok (.aload_n 0, 1) := by decide +kernel
theorem d_Mo_sale_108 : decode prog_13_method_94_code 108 = .ok (.getfield 460, 3) := by decide +kernel
theorem d_Mo_sale_111 : decode prog_13_method_94_code 111 = .ok (.ireturn, 1) := by decide +kernel
theorem d_Mo_sale_104 : decode prog_13_method_94_code 104 = .ok (.if_icmp .ne 8, 3) := by decide +kernel
theorem d_Mo_sale_89 : decode prog_13_method_94_code 89 = .ok (.bipush (-2), 2) := by decide +kernel
theorem d_Mo_sale_91 : decode prog_13_method_94_code 91 = .ok (.ireturn, 1) := by decide +kernel
theorem d_Mo_sale_86 : decode prog_13_method_94_code 86 = .ok (.ifCond .eq 6, 3) := by decide +kernel
theorem d_Mo_sale_72 : decode prog_13_method_94_code 72 = .ok (.ifCond .ne 6, 3) := by decide +kernel
theorem d_Mo_sale_67 : decode prog_13_method_94_code 67 = .ok (.ifCond .eq 8, 3) := by decide +kernel
theorem d_Mo_sale_56 : decode prog_13_method_94_code 56 = .ok (.ifCond .eq 19, 3) := by decide +kernel
def f_Mo_sale (N : Nat) (σ : Mem) (a1 : Int32) (a2 : Int32) (a3 : Int32) : Option (Int32 × Mem) :=
  bnd1 ((
    bnd1 ((
      if a3 = (-1) then
        (some 0)
      else
        (bnd1 (f_Mo_in a3 0 7) fun r9 =>
        if r9 = 0 then
          (some 1)
        else
          (bnd1 (f_Mo_has a2 a3) fun r17 =>
          if r17 = 0 then
            (some 1)
          else
            (some 0)))) : Option (Nat)) fun t2b =>
    if t2b = 0 then
      (some 1)
    else
    (bnd1 (f_Mo_in a3 10 17) fun r28 =>
    bnd1 ((
      if r28 = 0 then
        (some 0)
      else
        (bnd1 (f_Mo_has a2 (a3 - 10)) fun r39 =>
        if r39 = 0 then
          (some 0)
        else
          (some 1))) : Option (Nat)) fun t31b =>
    if t31b = 0 then
      (some 0)
    else
    (some 1))) : Option (Int32)) fun y2_s0 =>
  bnd1 (f_Mo_isHour a1) fun r53 =>
  if r53 = 0 then
    (some ((-3), σ))
  else
    (bnd1 (f_Mo_in a2 1 255) fun r64 =>
    if r64 = 0 then
      (some ((-3), σ))
    else
      (if y2_s0 = 0 then
        (some ((-3), σ))
      else
        (if (a2 &&& ((mI σ 65 47) ^^^ (-1))) = 0 then
          (bnd1 (f_Mo_laysDay N σ) fun σ93 =>
          bnd1 (f_Mo_laysSale N σ93 a1 a2) fun σ99 =>
          if a3 = (-1) then
            (some (mI σ99 65 53, σ99))
          else
            (bnd1 ((
              if 10 ≤ a3 then
                (some (a3 - 10))
              else
                (some a3)) : Option (Int32)) fun y115_s0 =>
            grd (inb y115_s0 8) <|
            grd (decide (¬ (mL σ99 97 (y115_s0.toNatClampNeg)) = 0)) <|
            letv ((((mL σ99 65 54) / (mL σ99 97 (y115_s0.toNatClampNeg))) - ((mL σ99 65 54) / (mL σ99 97 (y115_s0.toNatClampNeg))) / 145 * 145).toInt32) fun v145 =>
            if 10 ≤ a3 then
              (bnd1 ((
                if v145 = 144 then
                  (some (0, σ99))
                else
                  (bnd2 (f_Mo_worthOf N σ99 y115_s0 v145 a1) fun r174 σ174 =>
                  some (r174, σ174))) : Option (Int32 × Mem)) fun s161 =>
              q2 s161 fun y161_s0 σ161_ =>
              letv ((mI σ161_ 65 53) - y161_s0) fun v186 =>
              bnd2 (f_Mo_saleWithout N σ161_ a1 a2 y115_s0) fun r193 σ193 =>
              some (r193 - v186, σ193))
            else
              (some (v145, σ99))))
        else
          (some ((-2), σ)))))
set_option maxHeartbeats 4000000 in
set_option maxRecDepth 20000 in
theorem c_Mo_sale (Z : ZX) {N : Nat} {σ : Mem} {a1 : Int32} {a2 : Int32} {a3 : Int32} {r : Int32} {σ' : Mem} (h : f_Mo_sale N σ a1 a2 a3 = some (r, σ')) : CI Z 6 m_Mo_sale [rf Z 65, .int a1, .int a2, .int a3] σ r σ' := by
  refine Ct.of (by decide +kernel) (Nat.le_of_ble_eq_true rfl) (fun Y => ?_)
  show V (mkB Z) Y m_Mo_sale 6 (QP (mkB Z) Y nC 0 0 (fun v t => v = some (.int r) ∧ t = σ')) 0 0 nC σ 0 [(0, rf Z 65), (1, .int a1), (2, .int a2), (3, .int a3)] []
  unfold f_Mo_sale at h
  refine V.iload_n d_Mo_sale_0 rfl 3 rfl ?_
  refine V.iconst (v := (-1)) d_Mo_sale_1 (by decide) ?_
  obtain ⟨s2, h1, h⟩ := bnd1_e h
  have J2_50 : ∀ (y2_s0 : Int32), s2 = y2_s0 → V (mkB Z) Y m_Mo_sale 6 (QP (mkB Z) Y nC 0 0 (fun v t => v = some (.int r) ∧ t = σ')) 0 0 nC σ 50 [(0, rf Z 65), (1, .int a1), (2, .int a2), (3, .int a3)] [.int y2_s0] := by
    intro y2_s0 he
    rw [he] at h
    refine V.istore (lv' := [(4, .int y2_s0), (0, rf Z 65), (1, .int a1), (2, .int a2), (3, .int a3)]) d_Mo_sale_50 (by decide) rfl ?_
    refine V.iload_n d_Mo_sale_52 rfl 2 rfl ?_
    obtain ⟨r53, h1, h⟩ := bnd1_e h
    refine V.sI (as := [.int a1]) (st := []) (c_Mo_isHour Z h1) k_Mo_isHour lk_Mo_321 (by decide) rfl rfl (Nat.le_of_ble_eq_true rfl) d_Mo_sale_53 ?_
    refine V.if_eq (tgt := 75) d_Mo_sale_56 (by decide) (fun hc56 => ?_) (fun hc56 => ?_)
    · replace h := ite_t hc56 h
      refine V.bipush (v := (-3)) d_Mo_sale_75 (by decide) ?_
      cases h
      exact V.iret rfl d_Mo_sale_77 ⟨rfl, rfl⟩
    · replace h := ite_f hc56 h
      refine V.iload_n d_Mo_sale_59 rfl 3 rfl ?_
      refine V.iconst (v := 1) d_Mo_sale_60 (by decide) ?_
      refine V.sipush (v := 255) d_Mo_sale_61 (by decide) ?_
      obtain ⟨r64, h1, h⟩ := bnd1_e h
      refine V.sI (as := [.int a2, .int 1, .int 255]) (st := []) (c_Mo_in Z h1) k_Mo_in lk_Mo_188 (by decide) rfl rfl (Nat.le_of_ble_eq_true rfl) d_Mo_sale_64 ?_
      refine V.if_eq (tgt := 75) d_Mo_sale_67 (by decide) (fun hc67 => ?_) (fun hc67 => ?_)
      · replace h := ite_t hc67 h
        refine V.bipush (v := (-3)) d_Mo_sale_75 (by decide) ?_
        cases h
        exact V.iret rfl d_Mo_sale_77 ⟨rfl, rfl⟩
      · replace h := ite_f hc67 h
        refine V.iload d_Mo_sale_70 0 rfl ?_
        refine V.if_ne (tgt := 78) d_Mo_sale_72 (by decide) (fun hc72 => ?_) (fun hc72 => ?_)
        · replace h := ite_f hc72 h
          refine V.iload_n d_Mo_sale_78 rfl 3 rfl ?_
          refine V.aload_n d_Mo_sale_79 rfl 1 rfl ?_
          refine V.getI ok_Mo fl_Mo_444 (by decide) (by decide) ly_65 rfl d_Mo_sale_80 ?_
          refine V.iconst (v := (-1)) d_Mo_sale_83 (by decide) ?_
          refine V.ixor d_Mo_sale_84 ?_
          refine V.iand d_Mo_sale_85 ?_
          refine V.if_eq (tgt := 92) d_Mo_sale_86 (by decide) (fun hc86 => ?_) (fun hc86 => ?_)
          · replace h := ite_t hc86 h
            refine V.aload_n d_Mo_sale_92 rfl 1 rfl ?_
            obtain ⟨σ93, h1, h⟩ := bnd1_e h
            refine V.vN (as := []) (st := []) (c_Mo_laysDay Z h1) k_Mo_laysDay lk_Mo_370 (by decide) rfl (by decide) ly_65 ok_Mo.1 rfl (Nat.le_of_ble_eq_true rfl) d_Mo_sale_93 ?_
            refine V.aload_n d_Mo_sale_96 rfl 1 rfl ?_
            refine V.iload_n d_Mo_sale_97 rfl 2 rfl ?_
            refine V.iload_n d_Mo_sale_98 rfl 3 rfl ?_
            obtain ⟨σ99, h1, h⟩ := bnd1_e h
            refine V.vN (as := [.int a1, .int a2]) (st := []) (c_Mo_laysSale Z h1) k_Mo_laysSale lk_Mo_471 (by decide) rfl (by decide) ly_65 ok_Mo.1 rfl (Nat.le_of_ble_eq_true rfl) d_Mo_sale_99 ?_
            refine V.iload_n d_Mo_sale_102 rfl 4 rfl ?_
            refine V.iconst (v := (-1)) d_Mo_sale_103 (by decide) ?_
            refine V.icmp_ne (tgt := 112) d_Mo_sale_104 (by decide) (fun hc104 => ?_) (fun hc104 => ?_)
            · replace h := ite_f hc104 h
              refine V.iload_n d_Mo_sale_112 rfl 4 rfl ?_
              refine V.bipush (v := 10) d_Mo_sale_113 (by decide) ?_
              obtain ⟨s115, h1, h⟩ := bnd1_e h
              have J115_126 : ∀ (y115_s0 : Int32), s115 = y115_s0 → V (mkB Z) Y m_Mo_sale 6 (QP (mkB Z) Y nC 0 0 (fun v t => v = some (.int r) ∧ t = σ')) 0 0 nC σ99 126 [(0, rf Z 65), (1, .int a1), (2, .int a2), (3, .int a3)] [.int y115_s0] := by
                intro y115_s0 he
                rw [he] at h
                refine V.istore (lv' := [(5, .int y115_s0), (0, rf Z 65), (1, .int a1), (2, .int a2), (3, .int a3)]) d_Mo_sale_126 (by decide) rfl ?_
                refine V.aload_n d_Mo_sale_128 rfl 1 rfl ?_
                refine V.getL ok_Mo fl_Mo_467 (by decide) (by decide) ly_65 rfl d_Mo_sale_129 ?_
                refine V.aload_n d_Mo_sale_132 rfl 1 rfl ?_
                refine V.getR (r := 97) ok_Mo fl_Mo_106 (by decide) (by decide) ly_65 rfl d_Mo_sale_133 ?_
                refine V.iload d_Mo_sale_136 0 rfl ?_
                obtain ⟨gq, h⟩ := grd_e h
                refine V.rl (by decide) ly_97 (inb_e gq) rfl d_Mo_sale_138 ?_
                obtain ⟨gq, h⟩ := grd_e h
                refine V.ldiv d_Mo_sale_139 (of_decide_eq_true gq) ?_
                refine V.ldc2 (v := 145) kl_Mo_455 d_Mo_sale_140 ?_
                refine V.lrem d_Mo_sale_143 (by decide) ?_
                refine V.l2i d_Mo_sale_144 ?_
                obtain ⟨v145, e_v145, h⟩ := letv_e h
                refine V.topI e_v145 ?_
                refine V.istore (lv' := [(6, .int v145), (5, .int y115_s0), (0, rf Z 65), (1, .int a1), (2, .int a2), (3, .int a3)]) d_Mo_sale_145 (by decide) rfl ?_
                refine V.iload_n d_Mo_sale_147 rfl 5 rfl ?_
                refine V.bipush (v := 10) d_Mo_sale_148 (by decide) ?_
                refine V.icmp_ge (tgt := 156) d_Mo_sale_150 (by decide) (fun hc150 => ?_) (fun hc150 => ?_)
                · replace h := ite_t hc150 h
                  refine V.iload d_Mo_sale_156 0 rfl ?_
                  refine V.sipush (v := 144) d_Mo_sale_158 (by decide) ?_
                  obtain ⟨s161, h1, h⟩ := bnd1_e h
                  have J161_177 : ∀ (y161_s0 : Int32) (σ161_ : Mem), s161 = (y161_s0, σ161_) → V (mkB Z) Y m_Mo_sale 6 (QP (mkB Z) Y nC 0 0 (fun v t => v = some (.int r) ∧ t = σ')) 0 0 nC σ161_ 177 [(0, rf Z 65), (1, .int a1), (2, .int a2), (5, .int y115_s0)] [.int y161_s0] := by
                    intro y161_s0 σ161_ he
                    rw [he] at h
                    replace h := q2_e h
                    refine V.istore (lv' := [(7, .int y161_s0), (0, rf Z 65), (1, .int a1), (2, .int a2), (5, .int y115_s0)]) d_Mo_sale_177 (by decide) rfl ?_
                    refine V.aload_n d_Mo_sale_179 rfl 1 rfl ?_
                    refine V.getI ok_Mo fl_Mo_460 (by decide) (by decide) ly_65 rfl d_Mo_sale_180 ?_
                    refine V.iload d_Mo_sale_183 0 rfl ?_
                    refine V.isub d_Mo_sale_185 ?_
                    obtain ⟨v186, e_v186, h⟩ := letv_e h
                    refine V.topI e_v186 ?_
                    refine V.istore (lv' := [(8, .int v186), (7, .int y161_s0), (0, rf Z 65), (1, .int a1), (2, .int a2), (5, .int y115_s0)]) d_Mo_sale_186 (by decide) rfl ?_
                    refine V.aload_n d_Mo_sale_188 rfl 2 rfl ?_
                    refine V.iload_n d_Mo_sale_189 rfl 3 rfl ?_
                    refine V.iload_n d_Mo_sale_190 rfl 4 rfl ?_
                    refine V.iload d_Mo_sale_191 5 rfl ?_
                    obtain ⟨r193, σ193, h1, h⟩ := bnd2_e h
                    refine V.vI (as := [.int a1, .int a2, .int y115_s0]) (st := []) (c_Mo_saleWithout Z h1) k_Mo_saleWithout lk_Mo_474 (by decide) rfl (by decide) ly_65 ok_Mo.1 rfl (Nat.le_of_ble_eq_true rfl) d_Mo_sale_193 ?_
                    refine V.iload d_Mo_sale_196 0 rfl ?_
                    refine V.isub d_Mo_sale_198 ?_
                    cases h
                    exact V.iret rfl d_Mo_sale_199 ⟨rfl, rfl⟩
                  replace h := h1
                  refine V.icmp_ne (tgt := 168) d_Mo_sale_161 (by decide) (fun hc161 => ?_) (fun hc161 => ?_)
                  · replace h := ite_f hc161 h
                    refine V.aload_n d_Mo_sale_168 rfl 2 rfl ?_
                    refine V.iload d_Mo_sale_169 1 rfl ?_
                    refine V.iload d_Mo_sale_171 0 rfl ?_
                    refine V.iload_n d_Mo_sale_173 rfl 3 rfl ?_
                    obtain ⟨r174, σ174, h1, h⟩ := bnd2_e h
                    refine V.vI (as := [.int y115_s0, .int v145, .int a1]) (st := []) (c_Mo_worthOf Z h1) k_Mo_worthOf lk_Mo_450 (by decide) rfl (by decide) ly_65 ok_Mo.1 rfl (Nat.le_of_ble_eq_true rfl) d_Mo_sale_174 ?_
                    exact V.pick [2, 3, 4, 1] rfl (J161_177 _ _ (Option.some.inj h).symm)
                  · replace h := ite_t hc161 h
                    refine V.iconst (v := 0) d_Mo_sale_164 (by decide) ?_
                    refine V.goto (tgt := 177) d_Mo_sale_165 (by decide) ?_
                    exact V.pick [2, 3, 4, 1] rfl (J161_177 _ _ (Option.some.inj h).symm)
                · replace h := ite_f hc150 h
                  refine V.iload d_Mo_sale_153 0 rfl ?_
                  cases h
                  exact V.iret rfl d_Mo_sale_155 ⟨rfl, rfl⟩
              replace h := h1
              refine V.icmp_ge (tgt := 122) d_Mo_sale_115 (by decide) (fun hc115 => ?_) (fun hc115 => ?_)
              · replace h := ite_t hc115 h
                refine V.iload_n d_Mo_sale_122 rfl 4 rfl ?_
                refine V.bipush (v := 10) d_Mo_sale_123 (by decide) ?_
                refine V.isub d_Mo_sale_125 ?_
                exact V.pick [1, 2, 3, 4] rfl (J115_126 _ (Option.some.inj h).symm)
              · replace h := ite_f hc115 h
                refine V.iload_n d_Mo_sale_118 rfl 4 rfl ?_
                refine V.goto (tgt := 126) d_Mo_sale_119 (by decide) ?_
                exact V.pick [1, 2, 3, 4] rfl (J115_126 _ (Option.some.inj h).symm)
            · replace h := ite_t hc104 h
              refine V.aload_n d_Mo_sale_107 rfl 1 rfl ?_
              refine V.getI ok_Mo fl_Mo_460 (by decide) (by decide) ly_65 rfl d_Mo_sale_108 ?_
              cases h
              exact V.iret rfl d_Mo_sale_111 ⟨rfl, rfl⟩
          · replace h := ite_f hc86 h
            refine V.bipush (v := (-2)) d_Mo_sale_89 (by decide) ?_
            cases h
            exact V.iret rfl d_Mo_sale_91 ⟨rfl, rfl⟩
        · replace h := ite_t hc72 h
          refine V.bipush (v := (-3)) d_Mo_sale_75 (by decide) ?_
          cases h
          exact V.iret rfl d_Mo_sale_77 ⟨rfl, rfl⟩
  replace h := h1
  obtain ⟨s2b, h1, h⟩ := bnd1_e h
  have J2b_45 : s2b = 0 → V (mkB Z) Y m_Mo_sale 6 (QP (mkB Z) Y nC 0 0 (fun v t => v = some (.int r) ∧ t = σ')) 0 0 nC σ 45 [(0, rf Z 65), (1, .int a1), (2, .int a2), (3, .int a3)] [] := by
    intro he
    rw [he] at h
    replace h := ite_t rfl h
    refine V.iconst (v := 1) d_Mo_sale_45 (by decide) ?_
    refine V.goto (tgt := 50) d_Mo_sale_46 (by decide) ?_
    exact V.pick [0, 1, 2, 3] rfl (J2_50 _ (Option.some.inj h).symm)
  have J2b_23 : s2b = 1 → V (mkB Z) Y m_Mo_sale 6 (QP (mkB Z) Y nC 0 0 (fun v t => v = some (.int r) ∧ t = σ')) 0 0 nC σ 23 [(0, rf Z 65), (1, .int a1), (2, .int a2), (3, .int a3)] [] := by
    intro he
    rw [he] at h
    replace h := ite_f (by decide) h
    refine V.iload_n d_Mo_sale_23 rfl 3 rfl ?_
    refine V.bipush (v := 10) d_Mo_sale_24 (by decide) ?_
    refine V.bipush (v := 17) d_Mo_sale_26 (by decide) ?_
    obtain ⟨r28, h1, h⟩ := bnd1_e h
    refine V.sI (as := [.int a3, .int 10, .int 17]) (st := []) (c_Mo_in Z h1) k_Mo_in lk_Mo_188 (by decide) rfl rfl (Nat.le_of_ble_eq_true rfl) d_Mo_sale_28 ?_
    obtain ⟨s31b, h1, h⟩ := bnd1_e h
    have J31b_49 : s31b = 0 → V (mkB Z) Y m_Mo_sale 6 (QP (mkB Z) Y nC 0 0 (fun v t => v = some (.int r) ∧ t = σ')) 0 0 nC σ 49 [(0, rf Z 65), (1, .int a1), (2, .int a2), (3, .int a3)] [] := by
      intro he
      rw [he] at h
      replace h := ite_t rfl h
      refine V.iconst (v := 0) d_Mo_sale_49 (by decide) ?_
      exact V.pick [0, 1, 2, 3] rfl (J2_50 _ (Option.some.inj h).symm)
    have J31b_45 : s31b = 1 → V (mkB Z) Y m_Mo_sale 6 (QP (mkB Z) Y nC 0 0 (fun v t => v = some (.int r) ∧ t = σ')) 0 0 nC σ 45 [(0, rf Z 65), (1, .int a1), (2, .int a2), (3, .int a3)] [] := by
      intro he
      rw [he] at h
      replace h := ite_f (by decide) h
      refine V.iconst (v := 1) d_Mo_sale_45 (by decide) ?_
      refine V.goto (tgt := 50) d_Mo_sale_46 (by decide) ?_
      exact V.pick [0, 1, 2, 3] rfl (J2_50 _ (Option.some.inj h).symm)
    replace h := h1
    refine V.if_eq (tgt := 49) d_Mo_sale_31 (by decide) (fun hc31 => ?_) (fun hc31 => ?_)
    · replace h := ite_t hc31 h
      exact V.pick [0, 1, 2, 3] rfl (J31b_49 (Option.some.inj h).symm)
    · replace h := ite_f hc31 h
      refine V.iload_n d_Mo_sale_34 rfl 2 rfl ?_
      refine V.iload_n d_Mo_sale_35 rfl 3 rfl ?_
      refine V.bipush (v := 10) d_Mo_sale_36 (by decide) ?_
      refine V.isub d_Mo_sale_38 ?_
      obtain ⟨r39, h1, h⟩ := bnd1_e h
      refine V.sI (as := [.int a2, .int (a3 - 10)]) (st := []) (c_Mo_has Z h1) k_Mo_has lk_Mo_177 (by decide) rfl rfl (Nat.le_of_ble_eq_true rfl) d_Mo_sale_39 ?_
      refine V.if_eq (tgt := 49) d_Mo_sale_42 (by decide) (fun hc42 => ?_) (fun hc42 => ?_)
      · replace h := ite_t hc42 h
        exact V.pick [0, 1, 2, 3] rfl (J31b_49 (Option.some.inj h).symm)
      · replace h := ite_f hc42 h
        exact V.pick [0, 1, 2, 3] rfl (J31b_45 (Option.some.inj h).symm)
  replace h := h1
  refine V.icmp_eq (tgt := 45) d_Mo_sale_2 (by decide) (fun hc2 => ?_) (fun hc2 => ?_)
  · replace h := ite_t hc2 h
    exact V.pick [0, 1, 2, 3] rfl (J2b_45 (Option.some.inj h).symm)
  · replace h := ite_f hc2 h
    refine V.iload_n d_Mo_sale_5 rfl 3 rfl ?_
    refine V.iconst (v := 0) d_Mo_sale_6 (by decide) ?_
    refine V.bipush (v := 7) d_Mo_sale_7 (by decide) ?_
    obtain ⟨r9, h1, h⟩ := bnd1_e h
    refine V.sI (as := [.int a3, .int 0, .int 7]) (st := []) (c_Mo_in Z h1) k_Mo_in lk_Mo_188 (by decide) rfl rfl (Nat.le_of_ble_eq_true rfl) d_Mo_sale_9 ?_
    refine V.if_eq (tgt := 23) d_Mo_sale_12 (by decide) (fun hc12 => ?_) (fun hc12 => ?_)
    · replace h := ite_t hc12 h
      exact V.pick [0, 1, 2, 3] rfl (J2b_23 (Option.some.inj h).symm)
    · replace h := ite_f hc12 h
      refine V.iload_n d_Mo_sale_15 rfl 2 rfl ?_
      refine V.iload_n d_Mo_sale_16 rfl 3 rfl ?_
      obtain ⟨r17, h1, h⟩ := bnd1_e h
      refine V.sI (as := [.int a2, .int a3]) (st := []) (c_Mo_has Z h1) k_Mo_has lk_Mo_177 (by decide) rfl rfl (Nat.le_of_ble_eq_true rfl) d_Mo_sale_17 ?_
      refine V.if_ne (tgt := 45) d_Mo_sale_20 (by decide) (fun hc20 => ?_) (fun hc20 => ?_)
      · replace h := ite_f hc20 h
        exact V.pick [0, 1, 2, 3] rfl (J2b_45 (Option.some.inj h).symm)
      · replace h := ite_t hc20 h
        exact V.pick [0, 1, 2, 3] rfl (J2b_23 (Option.some.inj h).symm)
abbrev m_Mo_wish : MI := (⟨"ShadeTownModel", "wish", "(IIIIIZI)Z"⟩, prog_13_method_96_code, 8, (Option.some Jvm.ClassFile.FieldType.boolean))
theorem d_Mo_wish_0 : decode prog_13_method_96_code 0 = .ok (.iload_n 1, 1) := by decide +kernel
theorem d_Mo_wish_1 : decode prog_13_method_96_code 1 = .ok (.iconst 0, 1) := by decide +kernel
theorem d_Mo_wish_2 : decode prog_13_method_96_code 2 = .ok (.bipush 15, 2) := by decide +kernel
theorem d_Mo_wish_4 : decode prog_13_method_96_code 4 = .ok (.invokestatic 188, 3) := by decide +kernel
theorem d_Mo_wish_51 : decode prog_13_method_96_code 51 = .ok (.iconst 0, 1) := by decide +kernel
theorem d_Mo_wish_52 : decode prog_13_method_96_code 52 = .ok (.ireturn, 1) := by decide +kernel
theorem d_Mo_wish_10 : decode prog_13_method_96_code 10 = .ok (.iload_n 2, 1) := by decide +kernel
theorem d_Mo_wish_11 : decode prog_13_method_96_code 11 = .ok (.iload_n 3, 1) := by decide +kernel
theorem d_Mo_wish_12 : decode prog_13_method_96_code 12 = .ok (.invokestatic 185, 3) := by decide +kernel
theorem d_Mo_wish_18 : decode prog_13_method_96_code 18 = .ok (.iload 4, 2) := by decide +kernel
theorem d_Mo_wish_20 : decode prog_13_method_96_code 20 = .ok (.invokestatic 321, 3) := by decide +kernel
theorem d_Mo_wish_26 : decode prog_13_method_96_code 26 = .ok (.iload 5, 2) := by decide +kernel
theorem d_Mo_wish_28 : decode prog_13_method_96_code 28 = .ok (.iload 4, 2) := by decide +kernel
theorem d_Mo_wish_30 : decode prog_13_method_96_code 30 = .ok (.iconst 1, 1) := by decide +kernel
theorem d_Mo_wish_31 : decode prog_13_method_96_code 31 = .ok (.iadd, 1) := by decide +kernel
theorem d_Mo_wish_32 : decode prog_13_method_96_code 32 = .ok (.bipush 24, 2) := by decide +kernel
theorem d_Mo_wish_34 : decode prog_13_method_96_code 34 = .ok (.invokestatic 188, 3) := by decide +kernel
theorem d_Mo_wish_40 : decode prog_13_method_96_code 40 = .ok (.iload 7, 2) := by decide +kernel
theorem d_Mo_wish_42 : decode prog_13_method_96_code 42 = .ok (.iconst 1, 1) := by decide +kernel
theorem d_Mo_wish_43 : decode prog_13_method_96_code 43 = .ok (.bipush 99, 2) := by decide +kernel
theorem d_Mo_wish_45 : decode prog_13_method_96_code 45 = .ok (.invokestatic 188, 3) := by decide +kernel
theorem d_Mo_wish_53 : decode prog_13_method_96_code 53 = .ok (.aload_n 0, 1) := by decide +kernel
theorem fl_Mo_112 : FL "ShadeTownModel" 112 T_Mo 56 := atG 1388 (by decide +kernel) rfl
theorem d_Mo_wish_54 : decode prog_13_method_96_code 54 = .ok (.getfield 112, 3) := by decide +kernel
theorem d_Mo_wish_57 : decode prog_13_method_96_code 57 = .ok (.iload_n 1, 1) := by decide +kernel
theorem d_Mo_wish_58 : decode prog_13_method_96_code 58 = .ok (.bipush 12, 2) := by decide +kernel
theorem d_Mo_wish_60 : decode prog_13_method_96_code 60 = .ok (.iload_n 3, 1) := by decide +kernel
theorem d_Mo_wish_61 : decode prog_13_method_96_code 61 = .ok (.imul, 1) := by decide +kernel
theorem d_Mo_wish_62 : decode prog_13_method_96_code 62 = .ok (.iload_n 2, 1) := by decide +kernel
theorem d_Mo_wish_63 : decode prog_13_method_96_code 63 = .ok (.iadd, 1) := by decide +kernel
theorem d_Mo_wish_64 : decode prog_13_method_96_code 64 = .ok (.iastore, 1) := by decide +kernel
theorem d_Mo_wish_65 : decode prog_13_method_96_code 65 = .ok (.aload_n 0, 1) := by decide +kernel
theorem fl_Mo_115 : FL "ShadeTownModel" 115 T_Mo 57 := atG 1389 (by decide +kernel) rfl
theorem d_Mo_wish_66 : decode prog_13_method_96_code 66 = .ok (.getfield 115, 3) := by decide +kernel
theorem d_Mo_wish_69 : decode prog_13_method_96_code 69 = .ok (.iload_n 1, 1) := by decide +kernel
theorem d_Mo_wish_70 : decode prog_13_method_96_code 70 = .ok (.iload 4, 2) := by decide +kernel
theorem d_Mo_wish_72 : decode prog_13_method_96_code 72 = .ok (.iastore, 1) := by decide +kernel
theorem d_Mo_wish_73 : decode prog_13_method_96_code 73 = .ok (.aload_n 0, 1) := by decide +kernel
theorem fl_Mo_118 : FL "ShadeTownModel" 118 T_Mo 58 := atG 1390 (by decide +kernel) rfl
theorem d_Mo_wish_74 : decode prog_13_method_96_code 74 = .ok (.getfield 118, 3) := by decide +kernel
theorem d_Mo_wish_77 : decode prog_13_method_96_code 77 = .ok (.iload_n 1, 1) := by decide +kernel
theorem d_Mo_wish_78 : decode prog_13_method_96_code 78 = .ok (.iload 5, 2) := by decide +kernel
theorem d_Mo_wish_80 : decode prog_13_method_96_code 80 = .ok (.iastore, 1) := by decide +kernel
theorem d_Mo_wish_81 : decode prog_13_method_96_code 81 = .ok (.aload_n 0, 1) := by decide +kernel
theorem fl_Mo_124 : FL "ShadeTownModel" 124 T_Mo 60 := atG 1392 (by decide +kernel) rfl
theorem d_Mo_wish_82 : decode prog_13_method_96_code 82 = .ok (.getfield 124, 3) := by decide +kernel
theorem d_Mo_wish_85 : decode prog_13_method_96_code 85 = .ok (.iload_n 1, 1) := by decide +kernel
theorem d_Mo_wish_86 : decode prog_13_method_96_code 86 = .ok (.iload 6, 2) := by decide +kernel
theorem d_Mo_wish_88 : decode prog_13_method_96_code 88 = .ok (.bastore, 1) := by decide +kernel
theorem d_Mo_wish_89 : decode prog_13_method_96_code 89 = .ok (.aload_n 0, 1) := by decide +kernel
theorem fl_Mo_121 : FL "ShadeTownModel" 121 T_Mo 59 := atG 1391 (by decide +kernel) rfl
theorem d_Mo_wish_90 : decode prog_13_method_96_code 90 = .ok (.getfield 121, 3) := by decide +kernel
theorem d_Mo_wish_93 : decode prog_13_method_96_code 93 = .ok (.iload_n 1, 1) := by decide +kernel
theorem d_Mo_wish_94 : decode prog_13_method_96_code 94 = .ok (.iload 7, 2) := by decide +kernel
theorem d_Mo_wish_96 : decode prog_13_method_96_code 96 = .ok (.iastore, 1) := by decide +kernel
theorem d_Mo_wish_97 : decode prog_13_method_96_code 97 = .ok (.aload_n 0, 1) := by decide +kernel
theorem d_Mo_wish_98 : decode prog_13_method_96_code 98 = .ok (.aload_n 0, 1) := by decide +kernel
theorem fl_Mo_477 : FL "ShadeTownModel" 477 T_Mo 55 := atG 1387 (by decide +kernel) rfl
theorem d_Mo_wish_99 : decode prog_13_method_96_code 99 = .ok (.getfield 477, 3) := by decide +kernel
theorem d_Mo_wish_102 : decode prog_13_method_96_code 102 = .ok (.iconst 1, 1) := by decide +kernel
theorem d_Mo_wish_103 : decode prog_13_method_96_code 103 = .ok (.iload_n 1, 1) := by decide +kernel
theorem d_Mo_wish_104 : decode prog_13_method_96_code 104 = .ok (.ishl, 1) := by decide +kernel
theorem d_Mo_wish_105 : decode prog_13_method_96_code 105 = .ok (.ior, 1) := by decide +kernel
theorem d_Mo_wish_106 : decode prog_13_method_96_code 106 = .ok (.putfield 477, 3) := by decide +kernel
theorem d_Mo_wish_109 : decode prog_13_method_96_code 109 = .ok (.iconst 1, 1) := by decide +kernel
theorem d_Mo_wish_110 : decode prog_13_method_96_code 110 = .ok (.ireturn, 1) := by decide +kernel
theorem d_Mo_wish_48 : decode prog_13_method_96_code 48 = .ok (.ifCond .ne 5, 3) := by decide +kernel
theorem d_Mo_wish_37 : decode prog_13_method_96_code 37 = .ok (.ifCond .eq 14, 3) := by decide +kernel
theorem d_Mo_wish_23 : decode prog_13_method_96_code 23 = .ok (.ifCond .eq 28, 3) := by decide +kernel
theorem d_Mo_wish_15 : decode prog_13_method_96_code 15 = .ok (.ifCond .eq 36, 3) := by decide +kernel
theorem d_Mo_wish_7 : decode prog_13_method_96_code 7 = .ok (.ifCond .eq 44, 3) := by decide +kernel
def f_Mo_wish (σ : Mem) (a1 : Int32) (a2 : Int32) (a3 : Int32) (a4 : Int32) (a5 : Int32) (a6 : Int32) (a7 : Int32) : Option (Int32 × Mem) :=
  bnd1 (f_Mo_in a1 0 15) fun r4 =>
  if r4 = 0 then
    (some (0, σ))
  else
    (bnd1 (f_Mo_isIn a2 a3) fun r12 =>
    if r12 = 0 then
      (some (0, σ))
    else
      (bnd1 (f_Mo_isHour a4) fun r20 =>
      if r20 = 0 then
        (some (0, σ))
      else
        (bnd1 (f_Mo_in a5 (a4 + 1) 24) fun r34 =>
        if r34 = 0 then
          (some (0, σ))
        else
          (bnd1 (f_Mo_in a7 1 99) fun r45 =>
          if r45 = 0 then
            (some (0, σ))
          else
            (grd (inb a1 16) <|
            letv (sI σ 99 (a1.toNatClampNeg) ((12 * a3) + a2)) fun σ64 =>
            grd (inb a1 16) <|
            letv (sI σ64 100 (a1.toNatClampNeg) a4) fun σ72 =>
            grd (inb a1 16) <|
            letv (sI σ72 101 (a1.toNatClampNeg) a5) fun σ80 =>
            grd (inb a1 16) <|
            letv (sI σ80 103 (a1.toNatClampNeg) (a6 &&& 1)) fun σ88 =>
            grd (inb a1 16) <|
            letv (sI σ88 102 (a1.toNatClampNeg) a7) fun σ96 =>
            letv (sI σ96 65 55 ((mI σ96 65 55) ||| (1 <<< (a1 &&& 31)))) fun σ106 =>
            some (1, σ106))))))
set_option maxHeartbeats 4000000 in
set_option maxRecDepth 20000 in
theorem c_Mo_wish (Z : ZX) {σ : Mem} {a1 : Int32} {a2 : Int32} {a3 : Int32} {a4 : Int32} {a5 : Int32} {a6 : Int32} {a7 : Int32} {r : Int32} {σ' : Mem} (h : f_Mo_wish σ a1 a2 a3 a4 a5 a6 a7 = some (r, σ')) : CI Z 1 m_Mo_wish [rf Z 65, .int a1, .int a2, .int a3, .int a4, .int a5, .int a6, .int a7] σ r σ' := by
  refine Ct.of (by decide +kernel) (Nat.le_of_ble_eq_true rfl) (fun Y => ?_)
  show V (mkB Z) Y m_Mo_wish 1 (QP (mkB Z) Y nC 0 0 (fun v t => v = some (.int r) ∧ t = σ')) 0 0 nC σ 0 [(0, rf Z 65), (1, .int a1), (2, .int a2), (3, .int a3), (4, .int a4), (5, .int a5), (6, .int a6), (7, .int a7)] []
  unfold f_Mo_wish at h
  refine V.iload_n d_Mo_wish_0 rfl 1 rfl ?_
  refine V.iconst (v := 0) d_Mo_wish_1 (by decide) ?_
  refine V.bipush (v := 15) d_Mo_wish_2 (by decide) ?_
  obtain ⟨r4, h1, h⟩ := bnd1_e h
  refine V.sI (as := [.int a1, .int 0, .int 15]) (st := []) (c_Mo_in Z h1) k_Mo_in lk_Mo_188 (by decide) rfl rfl (Nat.le_of_ble_eq_true rfl) d_Mo_wish_4 ?_
  refine V.if_eq (tgt := 51) d_Mo_wish_7 (by decide) (fun hc7 => ?_) (fun hc7 => ?_)
  · replace h := ite_t hc7 h
    refine V.iconst (v := 0) d_Mo_wish_51 (by decide) ?_
    cases h
    exact V.zret rfl rfl d_Mo_wish_52 ⟨rfl, rfl⟩
  · replace h := ite_f hc7 h
    refine V.iload_n d_Mo_wish_10 rfl 2 rfl ?_
    refine V.iload_n d_Mo_wish_11 rfl 3 rfl ?_
    obtain ⟨r12, h1, h⟩ := bnd1_e h
    refine V.sI (as := [.int a2, .int a3]) (st := []) (c_Mo_isIn Z h1) k_Mo_isIn lk_Mo_185 (by decide) rfl rfl (Nat.le_of_ble_eq_true rfl) d_Mo_wish_12 ?_
    refine V.if_eq (tgt := 51) d_Mo_wish_15 (by decide) (fun hc15 => ?_) (fun hc15 => ?_)
    · replace h := ite_t hc15 h
      refine V.iconst (v := 0) d_Mo_wish_51 (by decide) ?_
      cases h
      exact V.zret rfl rfl d_Mo_wish_52 ⟨rfl, rfl⟩
    · replace h := ite_f hc15 h
      refine V.iload d_Mo_wish_18 4 rfl ?_
      obtain ⟨r20, h1, h⟩ := bnd1_e h
      refine V.sI (as := [.int a4]) (st := []) (c_Mo_isHour Z h1) k_Mo_isHour lk_Mo_321 (by decide) rfl rfl (Nat.le_of_ble_eq_true rfl) d_Mo_wish_20 ?_
      refine V.if_eq (tgt := 51) d_Mo_wish_23 (by decide) (fun hc23 => ?_) (fun hc23 => ?_)
      · replace h := ite_t hc23 h
        refine V.iconst (v := 0) d_Mo_wish_51 (by decide) ?_
        cases h
        exact V.zret rfl rfl d_Mo_wish_52 ⟨rfl, rfl⟩
      · replace h := ite_f hc23 h
        refine V.iload d_Mo_wish_26 5 rfl ?_
        refine V.iload d_Mo_wish_28 4 rfl ?_
        refine V.iconst (v := 1) d_Mo_wish_30 (by decide) ?_
        refine V.iadd d_Mo_wish_31 ?_
        refine V.bipush (v := 24) d_Mo_wish_32 (by decide) ?_
        obtain ⟨r34, h1, h⟩ := bnd1_e h
        refine V.sI (as := [.int a5, .int (a4 + 1), .int 24]) (st := []) (c_Mo_in Z h1) k_Mo_in lk_Mo_188 (by decide) rfl rfl (Nat.le_of_ble_eq_true rfl) d_Mo_wish_34 ?_
        refine V.if_eq (tgt := 51) d_Mo_wish_37 (by decide) (fun hc37 => ?_) (fun hc37 => ?_)
        · replace h := ite_t hc37 h
          refine V.iconst (v := 0) d_Mo_wish_51 (by decide) ?_
          cases h
          exact V.zret rfl rfl d_Mo_wish_52 ⟨rfl, rfl⟩
        · replace h := ite_f hc37 h
          refine V.iload d_Mo_wish_40 7 rfl ?_
          refine V.iconst (v := 1) d_Mo_wish_42 (by decide) ?_
          refine V.bipush (v := 99) d_Mo_wish_43 (by decide) ?_
          obtain ⟨r45, h1, h⟩ := bnd1_e h
          refine V.sI (as := [.int a7, .int 1, .int 99]) (st := []) (c_Mo_in Z h1) k_Mo_in lk_Mo_188 (by decide) rfl rfl (Nat.le_of_ble_eq_true rfl) d_Mo_wish_45 ?_
          refine V.if_ne (tgt := 53) d_Mo_wish_48 (by decide) (fun hc48 => ?_) (fun hc48 => ?_)
          · replace h := ite_f hc48 h
            refine V.aload_n d_Mo_wish_53 rfl 0 rfl ?_
            refine V.getR (r := 99) ok_Mo fl_Mo_112 (by decide) (by decide) ly_65 rfl d_Mo_wish_54 ?_
            refine V.iload_n d_Mo_wish_57 rfl 1 rfl ?_
            refine V.bipush (v := 12) d_Mo_wish_58 (by decide) ?_
            refine V.iload_n d_Mo_wish_60 rfl 3 rfl ?_
            refine V.imul d_Mo_wish_61 ?_
            refine V.iload_n d_Mo_wish_62 rfl 2 rfl ?_
            refine V.iadd d_Mo_wish_63 ?_
            obtain ⟨gq, h⟩ := grd_e h
            obtain ⟨σ64, e_σ64, h⟩ := letv_e h
            refine V.wa (by decide) ly_99 (inb_e gq) rfl d_Mo_wish_64 e_σ64 ?_
            refine V.aload_n d_Mo_wish_65 rfl 0 rfl ?_
            refine V.getR (r := 100) ok_Mo fl_Mo_115 (by decide) (by decide) ly_65 rfl d_Mo_wish_66 ?_
            refine V.iload_n d_Mo_wish_69 rfl 1 rfl ?_
            refine V.iload d_Mo_wish_70 4 rfl ?_
            obtain ⟨gq, h⟩ := grd_e h
            obtain ⟨σ72, e_σ72, h⟩ := letv_e h
            refine V.wa (by decide) ly_100 (inb_e gq) rfl d_Mo_wish_72 e_σ72 ?_
            refine V.aload_n d_Mo_wish_73 rfl 0 rfl ?_
            refine V.getR (r := 101) ok_Mo fl_Mo_118 (by decide) (by decide) ly_65 rfl d_Mo_wish_74 ?_
            refine V.iload_n d_Mo_wish_77 rfl 1 rfl ?_
            refine V.iload d_Mo_wish_78 5 rfl ?_
            obtain ⟨gq, h⟩ := grd_e h
            obtain ⟨σ80, e_σ80, h⟩ := letv_e h
            refine V.wa (by decide) ly_101 (inb_e gq) rfl d_Mo_wish_80 e_σ80 ?_
            refine V.aload_n d_Mo_wish_81 rfl 0 rfl ?_
            refine V.getR (r := 103) ok_Mo fl_Mo_124 (by decide) (by decide) ly_65 rfl d_Mo_wish_82 ?_
            refine V.iload_n d_Mo_wish_85 rfl 1 rfl ?_
            refine V.iload d_Mo_wish_86 6 rfl ?_
            obtain ⟨gq, h⟩ := grd_e h
            obtain ⟨σ88, e_σ88, h⟩ := letv_e h
            refine V.wz (by decide) ly_103 (inb_e gq) rfl d_Mo_wish_88 e_σ88 ?_
            refine V.aload_n d_Mo_wish_89 rfl 0 rfl ?_
            refine V.getR (r := 102) ok_Mo fl_Mo_121 (by decide) (by decide) ly_65 rfl d_Mo_wish_90 ?_
            refine V.iload_n d_Mo_wish_93 rfl 1 rfl ?_
            refine V.iload d_Mo_wish_94 7 rfl ?_
            obtain ⟨gq, h⟩ := grd_e h
            obtain ⟨σ96, e_σ96, h⟩ := letv_e h
            refine V.wa (by decide) ly_102 (inb_e gq) rfl d_Mo_wish_96 e_σ96 ?_
            refine V.aload_n d_Mo_wish_97 rfl 0 rfl ?_
            refine V.aload_n d_Mo_wish_98 rfl 0 rfl ?_
            refine V.getI ok_Mo fl_Mo_477 (by decide) (by decide) ly_65 rfl d_Mo_wish_99 ?_
            refine V.iconst (v := 1) d_Mo_wish_102 (by decide) ?_
            refine V.iload_n d_Mo_wish_103 rfl 1 rfl ?_
            refine V.ishl d_Mo_wish_104 ?_
            refine V.ior d_Mo_wish_105 ?_
            obtain ⟨σ106, e_σ106, h⟩ := letv_e h
            refine V.putI ok_Mo fl_Mo_477 (by decide) (by decide) ly_65 rfl rfl rfl rfl d_Mo_wish_106 (V.mem e_σ106 ?_)
            refine V.iconst (v := 1) d_Mo_wish_109 (by decide) ?_
            cases h
            exact V.zret rfl rfl d_Mo_wish_110 ⟨rfl, rfl⟩
          · replace h := ite_t hc48 h
            refine V.iconst (v := 0) d_Mo_wish_51 (by decide) ?_
            cases h
            exact V.zret rfl rfl d_Mo_wish_52 ⟨rfl, rfl⟩
abbrev m_Mo_isWish : MI := (⟨"ShadeTownModel", "isWish", "(I)Z"⟩, prog_13_method_95_code, 2, (Option.some Jvm.ClassFile.FieldType.boolean))
theorem d_Mo_isWish_0 : decode prog_13_method_95_code 0 = .ok (.iload_n 1, 1) := by decide +kernel
theorem d_Mo_isWish_25 : decode prog_13_method_95_code 25 = .ok (.iconst 0, 1) := by decide +kernel
theorem d_Mo_isWish_26 : decode prog_13_method_95_code 26 = .ok (.ireturn, 1) := by decide +kernel
theorem d_Mo_isWish_4 : decode prog_13_method_95_code 4 = .ok (.iload_n 1, 1) := by decide +kernel
theorem d_Mo_isWish_5 : decode prog_13_method_95_code 5 = .ok (.bipush 16, 2) := by decide +kernel
theorem d_Mo_isWish_10 : decode prog_13_method_95_code 10 = .ok (.aload_n 0, 1) := by decide +kernel
theorem d_Mo_isWish_11 : decode prog_13_method_95_code 11 = .ok (.getfield 477, 3) := by decide +kernel
theorem d_Mo_isWish_14 : decode prog_13_method_95_code 14 = .ok (.iload_n 1, 1) := by decide +kernel
theorem d_Mo_isWish_15 : decode prog_13_method_95_code 15 = .ok (.invokestatic 177, 3) := by decide +kernel
theorem d_Mo_isWish_21 : decode prog_13_method_95_code 21 = .ok (.iconst 1, 1) := by decide +kernel
theorem d_Mo_isWish_22 : decode prog_13_method_95_code 22 = .ok (.goto 4, 3) := by decide +kernel
theorem d_Mo_isWish_18 : decode prog_13_method_95_code 18 = .ok (.ifCond .eq 7, 3) := by decide +kernel
theorem d_Mo_isWish_7 : decode prog_13_method_95_code 7 = .ok (.if_icmp .ge 18, 3) := by decide +kernel
theorem d_Mo_isWish_1 : decode prog_13_method_95_code 1 = .ok (.ifCond .lt 24, 3) := by decide +kernel
def f_Mo_isWish (σ : Mem) (a1 : Int32) : Option (Int32) :=
  if a1 < 0 then
    (some 0)
  else
    (if 16 ≤ a1 then
      (some 0)
    else
      (bnd1 (f_Mo_has (mI σ 65 55) a1) fun r15 =>
      if r15 = 0 then
        (some 0)
      else
        (some 1)))
set_option maxHeartbeats 4000000 in
set_option maxRecDepth 20000 in
theorem c_Mo_isWish (Z : ZX) {σ : Mem} {a1 : Int32} {r : Int32} (h : f_Mo_isWish σ a1 = some r) : CI Z 1 m_Mo_isWish [rf Z 65, .int a1] σ r σ := by
  refine Ct.of (by decide +kernel) (Nat.le_of_ble_eq_true rfl) (fun Y => ?_)
  show V (mkB Z) Y m_Mo_isWish 1 (QP (mkB Z) Y nC 0 0 (fun v t => v = some (.int r) ∧ t = σ)) 0 0 nC σ 0 [(0, rf Z 65), (1, .int a1)] []
  unfold f_Mo_isWish at h
  refine V.iload_n d_Mo_isWish_0 rfl 1 rfl ?_
  refine V.if_lt (tgt := 25) d_Mo_isWish_1 (by decide) (fun hc1 => ?_) (fun hc1 => ?_)
  · replace h := ite_t hc1 h
    refine V.iconst (v := 0) d_Mo_isWish_25 (by decide) ?_
    cases h
    exact V.zret rfl rfl d_Mo_isWish_26 ⟨rfl, rfl⟩
  · replace h := ite_f hc1 h
    refine V.iload_n d_Mo_isWish_4 rfl 1 rfl ?_
    refine V.bipush (v := 16) d_Mo_isWish_5 (by decide) ?_
    refine V.icmp_ge (tgt := 25) d_Mo_isWish_7 (by decide) (fun hc7 => ?_) (fun hc7 => ?_)
    · replace h := ite_t hc7 h
      refine V.iconst (v := 0) d_Mo_isWish_25 (by decide) ?_
      cases h
      exact V.zret rfl rfl d_Mo_isWish_26 ⟨rfl, rfl⟩
    · replace h := ite_f hc7 h
      refine V.aload_n d_Mo_isWish_10 rfl 0 rfl ?_
      refine V.getI ok_Mo fl_Mo_477 (by decide) (by decide) ly_65 rfl d_Mo_isWish_11 ?_
      refine V.iload_n d_Mo_isWish_14 rfl 1 rfl ?_
      obtain ⟨r15, h1, h⟩ := bnd1_e h
      refine V.sI (as := [.int (mI σ 65 55), .int a1]) (st := []) (c_Mo_has Z h1) k_Mo_has lk_Mo_177 (by decide) rfl rfl (Nat.le_of_ble_eq_true rfl) d_Mo_isWish_15 ?_
      refine V.if_eq (tgt := 25) d_Mo_isWish_18 (by decide) (fun hc18 => ?_) (fun hc18 => ?_)
      · replace h := ite_t hc18 h
        refine V.iconst (v := 0) d_Mo_isWish_25 (by decide) ?_
        cases h
        exact V.zret rfl rfl d_Mo_isWish_26 ⟨rfl, rfl⟩
      · replace h := ite_f hc18 h
        refine V.iconst (v := 1) d_Mo_isWish_21 (by decide) ?_
        refine V.goto (tgt := 26) d_Mo_isWish_22 (by decide) ?_
        cases h
        exact V.zret rfl rfl d_Mo_isWish_26 ⟨rfl, rfl⟩
abbrev m_Mo_isBesides : MI := (⟨"ShadeTownModel", "isBesides", "(I)Z"⟩, prog_13_method_97_code, 3, (Option.some Jvm.ClassFile.FieldType.boolean))
theorem d_Mo_isBesides_0 : decode prog_13_method_97_code 0 = .ok (.iconst 0, 1) := by decide +kernel
theorem d_Mo_isBesides_1 : decode prog_13_method_97_code 1 = .ok (.istore_n 2, 1) := by decide +kernel
theorem d_Mo_isBesides_2 : decode prog_13_method_97_code 2 = .ok (.iload_n 2, 1) := by decide +kernel
theorem d_Mo_isBesides_3 : decode prog_13_method_97_code 3 = .ok (.aload_n 0, 1) := by decide +kernel
theorem fl_Mo_480 : FL "ShadeTownModel" 480 T_Mo 62 := atG 1394 (by decide +kernel) rfl
theorem d_Mo_isBesides_4 : decode prog_13_method_97_code 4 = .ok (.getfield 480, 3) := by decide +kernel
theorem d_Mo_isBesides_28 : decode prog_13_method_97_code 28 = .ok (.iconst 0, 1) := by decide +kernel
theorem d_Mo_isBesides_29 : decode prog_13_method_97_code 29 = .ok (.ireturn, 1) := by decide +kernel
theorem d_Mo_isBesides_10 : decode prog_13_method_97_code 10 = .ok (.aload_n 0, 1) := by decide +kernel
theorem fl_Mo_127 : FL "ShadeTownModel" 127 T_Mo 61 := atG 1393 (by decide +kernel) rfl
theorem d_Mo_isBesides_11 : decode prog_13_method_97_code 11 = .ok (.getfield 127, 3) := by decide +kernel
theorem d_Mo_isBesides_14 : decode prog_13_method_97_code 14 = .ok (.iload_n 2, 1) := by decide +kernel
theorem d_Mo_isBesides_15 : decode prog_13_method_97_code 15 = .ok (.iaload, 1) := by decide +kernel
theorem d_Mo_isBesides_16 : decode prog_13_method_97_code 16 = .ok (.iload_n 1, 1) := by decide +kernel
theorem d_Mo_isBesides_22 : decode prog_13_method_97_code 22 = .ok (.iinc 2 1, 3) := by decide +kernel
theorem d_Mo_isBesides_25 : decode prog_13_method_97_code 25 = .ok (.goto (-23), 3) := by decide +kernel
theorem d_Mo_isBesides_20 : decode prog_13_method_97_code 20 = .ok (.iconst 1, 1) := by decide +kernel
theorem d_Mo_isBesides_21 : decode prog_13_method_97_code 21 = .ok (.ireturn, 1) := by decide +kernel
theorem d_Mo_isBesides_17 : decode prog_13_method_97_code 17 = .ok (.if_icmp .ne 5, 3) := by decide +kernel
theorem d_Mo_isBesides_7 : decode prog_13_method_97_code 7 = .ok (.if_icmp .ge 21, 3) := by decide +kernel
def B_Mo_isBesides_l2 (N : Nat) (a1 : Int32) (σ : Mem) (rec : Int32 → Option (Int32)) (x2 : Int32) : Option (Int32) :=
  if (mI σ 65 62) ≤ x2 then
    (some 0)
  else
    (grd (inb x2 3) <|
    if (mI σ 104 (x2.toNatClampNeg)) = a1 then
      (some 1)
    else
      (letv (x2 + 1) fun v22 =>
      rec v22))
def L_Mo_isBesides_l2 (N : Nat) (a1 : Int32) (σ : Mem) : Nat → Int32 → Option (Int32)
  | 0, _ => none
  | k + 1, x2 => B_Mo_isBesides_l2 N a1 σ (L_Mo_isBesides_l2 N a1 σ k) x2
set_option maxHeartbeats 4000000 in
set_option maxRecDepth 20000 in
theorem cL_Mo_isBesides_l2 (Z : ZX) {Y : YX} {post : Option Value → Mem → Prop} {N : Nat} {a1 : Int32} {σ : Mem} {Good : Int32 → Prop} (hR : ∀ (v : Int32), Good v → post (some (.int v)) σ) : ∀ (k : Nat) (x2 : Int32) (res : Int32), L_Mo_isBesides_l2 N a1 σ k x2 = some res → Good res → V (mkB Z) Y m_Mo_isBesides 0 (QP (mkB Z) Y nC 0 0 post) 0 0 nC σ 2 [(0, rf Z 65), (1, .int a1), (2, .int x2)] [] := by
  intro k
  induction k with
  | zero => intro x2 res h; cases h
  | succ k ih =>
    intro x2 res h hg
    replace h : B_Mo_isBesides_l2 N a1 σ (L_Mo_isBesides_l2 N a1 σ k) x2 = some res := h
    unfold B_Mo_isBesides_l2 at h
    refine V.iload_n d_Mo_isBesides_2 rfl 2 rfl ?_
    refine V.aload_n d_Mo_isBesides_3 rfl 0 rfl ?_
    refine V.getI ok_Mo fl_Mo_480 (by decide) (by decide) ly_65 rfl d_Mo_isBesides_4 ?_
    refine V.icmp_ge (tgt := 28) d_Mo_isBesides_7 (by decide) (fun hc7 => ?_) (fun hc7 => ?_)
    · replace h := ite_t hc7 h
      refine V.iconst (v := 0) d_Mo_isBesides_28 (by decide) ?_
      cases h
      exact V.zret rfl rfl d_Mo_isBesides_29 (hR _ hg)
    · replace h := ite_f hc7 h
      refine V.aload_n d_Mo_isBesides_10 rfl 0 rfl ?_
      refine V.getR (r := 104) ok_Mo fl_Mo_127 (by decide) (by decide) ly_65 rfl d_Mo_isBesides_11 ?_
      refine V.iload_n d_Mo_isBesides_14 rfl 2 rfl ?_
      obtain ⟨gq, h⟩ := grd_e h
      refine V.ra (by decide) ly_104 (inb_e gq) rfl d_Mo_isBesides_15 ?_
      refine V.iload_n d_Mo_isBesides_16 rfl 1 rfl ?_
      refine V.icmp_ne (tgt := 22) d_Mo_isBesides_17 (by decide) (fun hc17 => ?_) (fun hc17 => ?_)
      · replace h := ite_f hc17 h
        obtain ⟨v22, e_v22, h⟩ := letv_e h
        refine V.iinc (v := v22) (lv' := [(2, .int v22), (0, rf Z 65), (1, .int a1)]) d_Mo_isBesides_22 2 rfl (by rw [e_v22]; rfl) (by decide) rfl ?_
        refine V.goto (tgt := 2) d_Mo_isBesides_25 (by decide) ?_
        exact V.pick [1, 2, 0] rfl (ih _ _ h hg)
      · replace h := ite_t hc17 h
        refine V.iconst (v := 1) d_Mo_isBesides_20 (by decide) ?_
        cases h
        exact V.zret rfl rfl d_Mo_isBesides_21 (hR _ hg)
def f_Mo_isBesides (N : Nat) (σ : Mem) (a1 : Int32) : Option (Int32) :=
  L_Mo_isBesides_l2 N a1 σ N 0
set_option maxHeartbeats 4000000 in
set_option maxRecDepth 20000 in
theorem c_Mo_isBesides (Z : ZX) {N : Nat} {σ : Mem} {a1 : Int32} {r : Int32} (h : f_Mo_isBesides N σ a1 = some r) : CI Z 0 m_Mo_isBesides [rf Z 65, .int a1] σ r σ := by
  refine Ct.of (by decide +kernel) (Nat.le_of_ble_eq_true rfl) (fun Y => ?_)
  show V (mkB Z) Y m_Mo_isBesides 0 (QP (mkB Z) Y nC 0 0 (fun v t => v = some (.int r) ∧ t = σ)) 0 0 nC σ 0 [(0, rf Z 65), (1, .int a1)] []
  unfold f_Mo_isBesides at h
  refine V.iconst (v := 0) d_Mo_isBesides_0 (by decide) ?_
  refine V.istore_n (lv' := [(2, .int 0), (0, rf Z 65), (1, .int a1)]) d_Mo_isBesides_1 rfl (by decide) rfl ?_
  refine V.pick [1, 2, 0] rfl (cL_Mo_isBesides_l2 Z (Good := fun z => z = _) (fun r2v he => ?_) N _ _ h rfl)
  · cases he
    exact ⟨rfl, rfl⟩
abbrev m_Mo_keptHours : MI := (⟨"ShadeTownModel", "keptHours", "(I)I"⟩, prog_13_method_98_code, 5, (Option.some Jvm.ClassFile.FieldType.int))
theorem d_Mo_keptHours_0 : decode prog_13_method_98_code 0 = .ok (.aload_n 0, 1) := by decide +kernel
theorem d_Mo_keptHours_1 : decode prog_13_method_98_code 1 = .ok (.getfield 78, 3) := by decide +kernel
theorem d_Mo_keptHours_4 : decode prog_13_method_98_code 4 = .ok (.aload_n 0, 1) := by decide +kernel
theorem d_Mo_keptHours_5 : decode prog_13_method_98_code 5 = .ok (.getfield 112, 3) := by decide +kernel
theorem d_Mo_keptHours_8 : decode prog_13_method_98_code 8 = .ok (.iload_n 1, 1) := by decide +kernel
theorem d_Mo_keptHours_9 : decode prog_13_method_98_code 9 = .ok (.iaload, 1) := by decide +kernel
theorem d_Mo_keptHours_10 : decode prog_13_method_98_code 10 = .ok (.baload, 1) := by decide +kernel
theorem d_Mo_keptHours_16 : decode prog_13_method_98_code 16 = .ok (.iconst 0, 1) := by decide +kernel
theorem d_Mo_keptHours_17 : decode prog_13_method_98_code 17 = .ok (.istore_n 2, 1) := by decide +kernel
theorem d_Mo_keptHours_18 : decode prog_13_method_98_code 18 = .ok (.aload_n 0, 1) := by decide +kernel
theorem d_Mo_keptHours_19 : decode prog_13_method_98_code 19 = .ok (.aload_n 0, 1) := by decide +kernel
theorem d_Mo_keptHours_20 : decode prog_13_method_98_code 20 = .ok (.getfield 112, 3) := by decide +kernel
theorem d_Mo_keptHours_23 : decode prog_13_method_98_code 23 = .ok (.iload_n 1, 1) := by decide +kernel
theorem d_Mo_keptHours_24 : decode prog_13_method_98_code 24 = .ok (.iaload, 1) := by decide +kernel
theorem d_Mo_keptHours_25 : decode prog_13_method_98_code 25 = .ok (.invokevirtual 483, 3) := by decide +kernel
theorem k_Mo_isBesides : MOk m_Mo_isBesides 1 ∧ IOk m_Mo_isBesides := ⟨⟨atG 1950 (by decide +kernel) rfl, atG 122 (by decide +kernel) rfl, ⟨by decide, by decide⟩, by decide +kernel, by decide⟩, atG 1949 (by decide +kernel) rfl, atG 99 (by decide +kernel) rfl⟩
theorem lk_Mo_483 : Cond.methodLink "ShadeTownModel" 483 ⟨"ShadeTownModel", "isBesides", "(I)Z"⟩ ∈ tblG := atG 1947 (by decide +kernel) rfl
theorem d_Mo_keptHours_28 : decode prog_13_method_98_code 28 = .ok (.istore_n 3, 1) := by decide +kernel
theorem d_Mo_keptHours_29 : decode prog_13_method_98_code 29 = .ok (.aload_n 0, 1) := by decide +kernel
theorem d_Mo_keptHours_30 : decode prog_13_method_98_code 30 = .ok (.getfield 115, 3) := by decide +kernel
theorem d_Mo_keptHours_33 : decode prog_13_method_98_code 33 = .ok (.iload_n 1, 1) := by decide +kernel
theorem d_Mo_keptHours_34 : decode prog_13_method_98_code 34 = .ok (.iaload, 1) := by decide +kernel
theorem d_Mo_keptHours_35 : decode prog_13_method_98_code 35 = .ok (.istore 4, 2) := by decide +kernel
theorem d_Mo_keptHours_37 : decode prog_13_method_98_code 37 = .ok (.iload 4, 2) := by decide +kernel
theorem d_Mo_keptHours_39 : decode prog_13_method_98_code 39 = .ok (.aload_n 0, 1) := by decide +kernel
theorem d_Mo_keptHours_40 : decode prog_13_method_98_code 40 = .ok (.getfield 118, 3) := by decide +kernel
theorem d_Mo_keptHours_43 : decode prog_13_method_98_code 43 = .ok (.iload_n 1, 1) := by decide +kernel
theorem d_Mo_keptHours_44 : decode prog_13_method_98_code 44 = .ok (.iaload, 1) := by decide +kernel
theorem d_Mo_keptHours_105 : decode prog_13_method_98_code 105 = .ok (.iload_n 2, 1) := by decide +kernel
theorem d_Mo_keptHours_106 : decode prog_13_method_98_code 106 = .ok (.ireturn, 1) := by decide +kernel
theorem d_Mo_keptHours_48 : decode prog_13_method_98_code 48 = .ok (.iload_n 2, 1) := by decide +kernel
theorem d_Mo_keptHours_49 : decode prog_13_method_98_code 49 = .ok (.aload_n 0, 1) := by decide +kernel
theorem d_Mo_keptHours_50 : decode prog_13_method_98_code 50 = .ok (.getfield 74, 3) := by decide +kernel
theorem d_Mo_keptHours_53 : decode prog_13_method_98_code 53 = .ok (.iload 4, 2) := by decide +kernel
theorem d_Mo_keptHours_55 : decode prog_13_method_98_code 55 = .ok (.baload, 1) := by decide +kernel
theorem d_Mo_keptHours_96 : decode prog_13_method_98_code 96 = .ok (.iconst 0, 1) := by decide +kernel
theorem d_Mo_keptHours_59 : decode prog_13_method_98_code 59 = .ok (.aload_n 0, 1) := by decide +kernel
theorem d_Mo_keptHours_60 : decode prog_13_method_98_code 60 = .ok (.iload 4, 2) := by decide +kernel
theorem d_Mo_keptHours_62 : decode prog_13_method_98_code 62 = .ok (.aload_n 0, 1) := by decide +kernel
theorem d_Mo_keptHours_63 : decode prog_13_method_98_code 63 = .ok (.getfield 112, 3) := by decide +kernel
theorem d_Mo_keptHours_66 : decode prog_13_method_98_code 66 = .ok (.iload_n 1, 1) := by decide +kernel
theorem d_Mo_keptHours_67 : decode prog_13_method_98_code 67 = .ok (.iaload, 1) := by decide +kernel
theorem d_Mo_keptHours_68 : decode prog_13_method_98_code 68 = .ok (.invokevirtual 373, 3) := by decide +kernel
theorem d_Mo_keptHours_74 : decode prog_13_method_98_code 74 = .ok (.iload_n 3, 1) := by decide +kernel
theorem d_Mo_keptHours_75 : decode prog_13_method_98_code 75 = .ok (.ifCond .eq 7, 3) := by decide +kernel
theorem d_Mo_keptHours_71 : decode prog_13_method_98_code 71 = .ok (.ifCond .ne 7, 3) := by decide +kernel
theorem d_Mo_keptHours_78 : decode prog_13_method_98_code 78 = .ok (.iconst 1, 1) := by decide +kernel
theorem d_Mo_keptHours_79 : decode prog_13_method_98_code 79 = .ok (.goto 4, 3) := by decide +kernel
theorem d_Mo_keptHours_82 : decode prog_13_method_98_code 82 = .ok (.iconst 0, 1) := by decide +kernel
theorem d_Mo_keptHours_83 : decode prog_13_method_98_code 83 = .ok (.aload_n 0, 1) := by decide +kernel
theorem d_Mo_keptHours_84 : decode prog_13_method_98_code 84 = .ok (.getfield 124, 3) := by decide +kernel
theorem d_Mo_keptHours_87 : decode prog_13_method_98_code 87 = .ok (.iload_n 1, 1) := by decide +kernel
theorem d_Mo_keptHours_88 : decode prog_13_method_98_code 88 = .ok (.baload, 1) := by decide +kernel
theorem d_Mo_keptHours_92 : decode prog_13_method_98_code 92 = .ok (.iconst 1, 1) := by decide +kernel
theorem d_Mo_keptHours_93 : decode prog_13_method_98_code 93 = .ok (.goto 4, 3) := by decide +kernel
theorem d_Mo_keptHours_89 : decode prog_13_method_98_code 89 = .ok (.if_icmp .eq 7, 3) := by decide +kernel
theorem d_Mo_keptHours_56 : decode prog_13_method_98_code 56 = .ok (.ifCond .eq 40, 3) := by decide +kernel
theorem d_Mo_keptHours_97 : decode prog_13_method_98_code 97 = .ok (.iadd, 1) := by decide +kernel
theorem d_Mo_keptHours_98 : decode prog_13_method_98_code 98 = .ok (.istore_n 2, 1) := by decide +kernel
theorem d_Mo_keptHours_99 : decode prog_13_method_98_code 99 = .ok (.iinc 4 1, 3) := by decide +kernel
theorem d_Mo_keptHours_102 : decode prog_13_method_98_code 102 = .ok (.goto (-65), 3) := by decide +kernel
theorem d_Mo_keptHours_45 : decode prog_13_method_98_code 45 = .ok (.if_icmp .ge 60, 3) := by decide +kernel
theorem d_Mo_keptHours_14 : decode prog_13_method_98_code 14 = .ok (.iconst 0, 1) := by decide +kernel
theorem d_Mo_keptHours_15 : decode prog_13_method_98_code 15 = .ok (.ireturn, 1) := by decide +kernel
theorem d_Mo_keptHours_11 : decode prog_13_method_98_code 11 = .ok (.ifCond .ne 5, 3) := by decide +kernel
def B_Mo_keptHours_l37 (N : Nat) (a1 : Int32) (a3 : Int32) (σ : Mem) (rec : Int32 → Int32 → Option (Int32)) (x2 : Int32) (x4 : Int32) : Option (Int32) :=
  grd (inb a1 16) <|
  if (mI σ 101 (a1.toNatClampNeg)) ≤ x4 then
    (some x2)
  else
    (grd (inb x4 24) <|
    bnd1 ((
      if (mI σ 87 (x4.toNatClampNeg)) = 0 then
        (some 0)
      else
        (grd (inb a1 16) <|
        bnd1 (f_Mo_whoOn σ x4 (mI σ 99 (a1.toNatClampNeg))) fun r68 =>
        bnd1 ((
          bnd1 ((
            if r68 = 0 then
              (if a3 = 0 then
                (some 1)
              else
                (some 0))
            else
              (some 0)) : Option (Nat)) fun t71b =>
          if t71b = 0 then
            (some 1)
          else
          (some 0)) : Option (Int32)) fun y71_s1 =>
        grd (inb a1 16) <|
        if y71_s1 = (mI σ 103 (a1.toNatClampNeg)) then
          (some 0)
        else
          (some 1))) : Option (Int32)) fun y56_s1 =>
    letv (x2 + y56_s1) fun v98 =>
    letv (x4 + 1) fun v99 =>
    rec v98 v99)
def L_Mo_keptHours_l37 (N : Nat) (a1 : Int32) (a3 : Int32) (σ : Mem) : Nat → Int32 → Int32 → Option (Int32)
  | 0, _, _ => none
  | k + 1, x2, x4 => B_Mo_keptHours_l37 N a1 a3 σ (L_Mo_keptHours_l37 N a1 a3 σ k) x2 x4
set_option maxHeartbeats 4000000 in
set_option maxRecDepth 20000 in
theorem cL_Mo_keptHours_l37 (Z : ZX) {Y : YX} {post : Option Value → Mem → Prop} {N : Nat} {a1 : Int32} {a3 : Int32} {σ : Mem} {Good : Int32 → Prop} (hR : ∀ (v : Int32), Good v → post (some (.int v)) σ) : ∀ (k : Nat) (x2 : Int32) (x4 : Int32) (res : Int32), L_Mo_keptHours_l37 N a1 a3 σ k x2 x4 = some res → Good res → V (mkB Z) Y m_Mo_keptHours 1 (QP (mkB Z) Y nC 0 0 post) 0 0 nC σ 37 [(0, rf Z 65), (1, .int a1), (2, .int x2), (3, .int a3), (4, .int x4)] [] := by
  intro k
  induction k with
  | zero => intro x2 x4 res h; cases h
  | succ k ih =>
    intro x2 x4 res h hg
    replace h : B_Mo_keptHours_l37 N a1 a3 σ (L_Mo_keptHours_l37 N a1 a3 σ k) x2 x4 = some res := h
    unfold B_Mo_keptHours_l37 at h
    refine V.iload d_Mo_keptHours_37 4 rfl ?_
    refine V.aload_n d_Mo_keptHours_39 rfl 0 rfl ?_
    refine V.getR (r := 101) ok_Mo fl_Mo_118 (by decide) (by decide) ly_65 rfl d_Mo_keptHours_40 ?_
    refine V.iload_n d_Mo_keptHours_43 rfl 1 rfl ?_
    obtain ⟨gq, h⟩ := grd_e h
    refine V.ra (by decide) ly_101 (inb_e gq) rfl d_Mo_keptHours_44 ?_
    refine V.icmp_ge (tgt := 105) d_Mo_keptHours_45 (by decide) (fun hc45 => ?_) (fun hc45 => ?_)
    · replace h := ite_t hc45 h
      refine V.iload_n d_Mo_keptHours_105 rfl 2 rfl ?_
      cases h
      exact V.iret rfl d_Mo_keptHours_106 (hR _ hg)
    · replace h := ite_f hc45 h
      refine V.iload_n d_Mo_keptHours_48 rfl 2 rfl ?_
      refine V.aload_n d_Mo_keptHours_49 rfl 0 rfl ?_
      refine V.getR (r := 87) ok_Mo fl_Mo_74 (by decide) (by decide) ly_65 rfl d_Mo_keptHours_50 ?_
      refine V.iload d_Mo_keptHours_53 4 rfl ?_
      obtain ⟨gq, h⟩ := grd_e h
      refine V.rz (by decide) ly_87 (inb_e gq) rfl d_Mo_keptHours_55 ?_
      obtain ⟨s56, h1, h⟩ := bnd1_e h
      have J56_97 : ∀ (y56_s1 : Int32), s56 = y56_s1 → V (mkB Z) Y m_Mo_keptHours 1 (QP (mkB Z) Y nC 0 0 post) 0 0 nC σ 97 [(0, rf Z 65), (1, .int a1), (3, .int a3), (4, .int x4)] [.int y56_s1, .int x2] := by
        intro y56_s1 he
        rw [he] at h
        refine V.iadd d_Mo_keptHours_97 ?_
        obtain ⟨v98, e_v98, h⟩ := letv_e h
        refine V.topI e_v98 ?_
        refine V.istore_n (lv' := [(2, .int v98), (0, rf Z 65), (1, .int a1), (3, .int a3), (4, .int x4)]) d_Mo_keptHours_98 rfl (by decide) rfl ?_
        obtain ⟨v99, e_v99, h⟩ := letv_e h
        refine V.iinc (v := v99) (lv' := [(4, .int v99), (2, .int v98), (0, rf Z 65), (1, .int a1), (3, .int a3)]) d_Mo_keptHours_99 4 rfl (by rw [e_v99]; rfl) (by decide) rfl ?_
        refine V.goto (tgt := 37) d_Mo_keptHours_102 (by decide) ?_
        exact V.pick [2, 3, 1, 4, 0] rfl (ih _ _ _ h hg)
      replace h := h1
      refine V.if_eq (tgt := 96) d_Mo_keptHours_56 (by decide) (fun hc56 => ?_) (fun hc56 => ?_)
      · replace h := ite_t hc56 h
        refine V.iconst (v := 0) d_Mo_keptHours_96 (by decide) ?_
        exact V.pick [0, 1, 3, 4] rfl (J56_97 _ (Option.some.inj h).symm)
      · replace h := ite_f hc56 h
        refine V.aload_n d_Mo_keptHours_59 rfl 0 rfl ?_
        refine V.iload d_Mo_keptHours_60 4 rfl ?_
        refine V.aload_n d_Mo_keptHours_62 rfl 0 rfl ?_
        refine V.getR (r := 99) ok_Mo fl_Mo_112 (by decide) (by decide) ly_65 rfl d_Mo_keptHours_63 ?_
        refine V.iload_n d_Mo_keptHours_66 rfl 1 rfl ?_
        obtain ⟨gq, h⟩ := grd_e h
        refine V.ra (by decide) ly_99 (inb_e gq) rfl d_Mo_keptHours_67 ?_
        obtain ⟨r68, h1, h⟩ := bnd1_e h
        refine V.vI (as := [.int x4, .int (mI σ 99 (a1.toNatClampNeg))]) (st := [.int x2]) (c_Mo_whoOn Z h1) k_Mo_whoOn lk_Mo_373 (by decide) rfl (by decide) ly_65 ok_Mo.1 rfl (Nat.le_of_ble_eq_true rfl) d_Mo_keptHours_68 ?_
        obtain ⟨s71, h1, h⟩ := bnd1_e h
        have J71_83 : ∀ (y71_s1 : Int32), s71 = y71_s1 → V (mkB Z) Y m_Mo_keptHours 1 (QP (mkB Z) Y nC 0 0 post) 0 0 nC σ 83 [(0, rf Z 65), (1, .int a1), (3, .int a3), (4, .int x4)] [.int y71_s1, .int x2] := by
          intro y71_s1 he
          rw [he] at h
          refine V.aload_n d_Mo_keptHours_83 rfl 0 rfl ?_
          refine V.getR (r := 103) ok_Mo fl_Mo_124 (by decide) (by decide) ly_65 rfl d_Mo_keptHours_84 ?_
          refine V.iload_n d_Mo_keptHours_87 rfl 1 rfl ?_
          obtain ⟨gq, h⟩ := grd_e h
          refine V.rz (by decide) ly_103 (inb_e gq) rfl d_Mo_keptHours_88 ?_
          refine V.icmp_eq (tgt := 96) d_Mo_keptHours_89 (by decide) (fun hc89 => ?_) (fun hc89 => ?_)
          · replace h := ite_t hc89 h
            refine V.iconst (v := 0) d_Mo_keptHours_96 (by decide) ?_
            exact V.pick [0, 1, 2, 3] rfl (J56_97 _ (Option.some.inj h).symm)
          · replace h := ite_f hc89 h
            refine V.iconst (v := 1) d_Mo_keptHours_92 (by decide) ?_
            refine V.goto (tgt := 97) d_Mo_keptHours_93 (by decide) ?_
            exact V.pick [0, 1, 2, 3] rfl (J56_97 _ (Option.some.inj h).symm)
        replace h := h1
        obtain ⟨s71b, h1, h⟩ := bnd1_e h
        have J71b_78 : s71b = 0 → V (mkB Z) Y m_Mo_keptHours 1 (QP (mkB Z) Y nC 0 0 post) 0 0 nC σ 78 [(0, rf Z 65), (1, .int a1), (3, .int a3), (4, .int x4)] [.int x2] := by
          intro he
          rw [he] at h
          replace h := ite_t rfl h
          refine V.iconst (v := 1) d_Mo_keptHours_78 (by decide) ?_
          refine V.goto (tgt := 83) d_Mo_keptHours_79 (by decide) ?_
          exact V.pick [0, 1, 2, 3] rfl (J71_83 _ (Option.some.inj h).symm)
        have J71b_82 : s71b = 1 → V (mkB Z) Y m_Mo_keptHours 1 (QP (mkB Z) Y nC 0 0 post) 0 0 nC σ 82 [(0, rf Z 65), (1, .int a1), (3, .int a3), (4, .int x4)] [.int x2] := by
          intro he
          rw [he] at h
          replace h := ite_f (by decide) h
          refine V.iconst (v := 0) d_Mo_keptHours_82 (by decide) ?_
          exact V.pick [0, 1, 2, 3] rfl (J71_83 _ (Option.some.inj h).symm)
        replace h := h1
        refine V.if_ne (tgt := 78) d_Mo_keptHours_71 (by decide) (fun hc71 => ?_) (fun hc71 => ?_)
        · replace h := ite_f hc71 h
          exact V.pick [0, 1, 3, 4] rfl (J71b_78 (Option.some.inj h).symm)
        · replace h := ite_t hc71 h
          refine V.iload_n d_Mo_keptHours_74 rfl 3 rfl ?_
          refine V.if_eq (tgt := 82) d_Mo_keptHours_75 (by decide) (fun hc75 => ?_) (fun hc75 => ?_)
          · replace h := ite_t hc75 h
            exact V.pick [0, 1, 3, 4] rfl (J71b_82 (Option.some.inj h).symm)
          · replace h := ite_f hc75 h
            exact V.pick [0, 1, 3, 4] rfl (J71b_78 (Option.some.inj h).symm)
def f_Mo_keptHours (N : Nat) (σ : Mem) (a1 : Int32) : Option (Int32) :=
  grd (inb a1 16) <|
  grd (inb (mI σ 99 (a1.toNatClampNeg)) 144) <|
  if (mI σ 88 ((mI σ 99 (a1.toNatClampNeg)).toNatClampNeg)) = 0 then
    (some 0)
  else
    (grd (inb a1 16) <|
    bnd1 (f_Mo_isBesides N σ (mI σ 99 (a1.toNatClampNeg))) fun r25 =>
    grd (inb a1 16) <|
    letv (mI σ 100 (a1.toNatClampNeg)) fun v35 =>
    L_Mo_keptHours_l37 N a1 r25 σ N 0 v35)
set_option maxHeartbeats 4000000 in
set_option maxRecDepth 20000 in
theorem c_Mo_keptHours (Z : ZX) {N : Nat} {σ : Mem} {a1 : Int32} {r : Int32} (h : f_Mo_keptHours N σ a1 = some r) : CI Z 1 m_Mo_keptHours [rf Z 65, .int a1] σ r σ := by
  refine Ct.of (by decide +kernel) (Nat.le_of_ble_eq_true rfl) (fun Y => ?_)
  show V (mkB Z) Y m_Mo_keptHours 1 (QP (mkB Z) Y nC 0 0 (fun v t => v = some (.int r) ∧ t = σ)) 0 0 nC σ 0 [(0, rf Z 65), (1, .int a1)] []
  unfold f_Mo_keptHours at h
  refine V.aload_n d_Mo_keptHours_0 rfl 0 rfl ?_
  refine V.getR (r := 88) ok_Mo fl_Mo_78 (by decide) (by decide) ly_65 rfl d_Mo_keptHours_1 ?_
  refine V.aload_n d_Mo_keptHours_4 rfl 0 rfl ?_
  refine V.getR (r := 99) ok_Mo fl_Mo_112 (by decide) (by decide) ly_65 rfl d_Mo_keptHours_5 ?_
  refine V.iload_n d_Mo_keptHours_8 rfl 1 rfl ?_
  obtain ⟨gq, h⟩ := grd_e h
  refine V.ra (by decide) ly_99 (inb_e gq) rfl d_Mo_keptHours_9 ?_
  obtain ⟨gq, h⟩ := grd_e h
  refine V.rz (by decide) ly_88 (inb_e gq) rfl d_Mo_keptHours_10 ?_
  refine V.if_ne (tgt := 16) d_Mo_keptHours_11 (by decide) (fun hc11 => ?_) (fun hc11 => ?_)
  · replace h := ite_f hc11 h
    refine V.iconst (v := 0) d_Mo_keptHours_16 (by decide) ?_
    refine V.istore_n (lv' := [(2, .int 0), (0, rf Z 65), (1, .int a1)]) d_Mo_keptHours_17 rfl (by decide) rfl ?_
    refine V.aload_n d_Mo_keptHours_18 rfl 1 rfl ?_
    refine V.aload_n d_Mo_keptHours_19 rfl 1 rfl ?_
    refine V.getR (r := 99) ok_Mo fl_Mo_112 (by decide) (by decide) ly_65 rfl d_Mo_keptHours_20 ?_
    refine V.iload_n d_Mo_keptHours_23 rfl 2 rfl ?_
    obtain ⟨gq, h⟩ := grd_e h
    refine V.ra (by decide) ly_99 (inb_e gq) rfl d_Mo_keptHours_24 ?_
    obtain ⟨r25, h1, h⟩ := bnd1_e h
    refine V.vI (as := [.int (mI σ 99 (a1.toNatClampNeg))]) (st := []) (c_Mo_isBesides Z h1) k_Mo_isBesides lk_Mo_483 (by decide) rfl (by decide) ly_65 ok_Mo.1 rfl (Nat.le_of_ble_eq_true rfl) d_Mo_keptHours_25 ?_
    refine V.istore_n (lv' := [(3, .int r25), (2, .int 0), (0, rf Z 65), (1, .int a1)]) d_Mo_keptHours_28 rfl (by decide) rfl ?_
    refine V.aload_n d_Mo_keptHours_29 rfl 2 rfl ?_
    refine V.getR (r := 100) ok_Mo fl_Mo_115 (by decide) (by decide) ly_65 rfl d_Mo_keptHours_30 ?_
    refine V.iload_n d_Mo_keptHours_33 rfl 3 rfl ?_
    obtain ⟨gq, h⟩ := grd_e h
    refine V.ra (by decide) ly_100 (inb_e gq) rfl d_Mo_keptHours_34 ?_
    obtain ⟨v35, e_v35, h⟩ := letv_e h
    refine V.topI e_v35 ?_
    refine V.istore (lv' := [(4, .int v35), (3, .int r25), (2, .int 0), (0, rf Z 65), (1, .int a1)]) d_Mo_keptHours_35 (by decide) rfl ?_
    refine V.pick [3, 4, 2, 1, 0] rfl (cL_Mo_keptHours_l37 Z (Good := fun z => z = _) (fun r37v he => ?_) N _ _ _ h rfl)
    · cases he
      exact ⟨rfl, rfl⟩
  · replace h := ite_t hc11 h
    refine V.iconst (v := 0) d_Mo_keptHours_14 (by decide) ?_
    cases h
    exact V.iret rfl d_Mo_keptHours_15 ⟨rfl, rfl⟩
abbrev m_Mo_kept : MI := (⟨"ShadeTownModel", "kept", "(I)I"⟩, prog_13_method_99_code, 2, (Option.some Jvm.ClassFile.FieldType.int))
theorem d_Mo_kept_0 : decode prog_13_method_99_code 0 = .ok (.aload_n 0, 1) := by decide +kernel
theorem d_Mo_kept_1 : decode prog_13_method_99_code 1 = .ok (.iload_n 1, 1) := by decide +kernel
theorem d_Mo_kept_2 : decode prog_13_method_99_code 2 = .ok (.invokevirtual 486, 3) := by decide +kernel
theorem k_Mo_isWish : MOk m_Mo_isWish 1 ∧ IOk m_Mo_isWish := ⟨⟨atG 1942 (by decide +kernel) rfl, atG 122 (by decide +kernel) rfl, ⟨by decide, by decide⟩, by decide +kernel, by decide⟩, atG 1941 (by decide +kernel) rfl, atG 97 (by decide +kernel) rfl⟩
theorem lk_Mo_486 : Cond.methodLink "ShadeTownModel" 486 ⟨"ShadeTownModel", "isWish", "(I)Z"⟩ ∈ tblG := atG 1939 (by decide +kernel) rfl
theorem d_Mo_kept_10 : decode prog_13_method_99_code 10 = .ok (.aload_n 0, 1) := by decide +kernel
theorem d_Mo_kept_11 : decode prog_13_method_99_code 11 = .ok (.invokevirtual 370, 3) := by decide +kernel
theorem d_Mo_kept_14 : decode prog_13_method_99_code 14 = .ok (.aload_n 0, 1) := by decide +kernel
theorem d_Mo_kept_15 : decode prog_13_method_99_code 15 = .ok (.iconst 0, 1) := by decide +kernel
theorem d_Mo_kept_16 : decode prog_13_method_99_code 16 = .ok (.putfield 480, 3) := by decide +kernel
theorem d_Mo_kept_19 : decode prog_13_method_99_code 19 = .ok (.aload_n 0, 1) := by decide +kernel
theorem d_Mo_kept_20 : decode prog_13_method_99_code 20 = .ok (.iload_n 1, 1) := by decide +kernel
theorem d_Mo_kept_21 : decode prog_13_method_99_code 21 = .ok (.invokevirtual 489, 3) := by decide +kernel
theorem k_Mo_keptHours : MOk m_Mo_keptHours 1 ∧ IOk m_Mo_keptHours := ⟨⟨atG 1946 (by decide +kernel) rfl, atG 122 (by decide +kernel) rfl, ⟨by decide, by decide⟩, by decide +kernel, by decide⟩, atG 1945 (by decide +kernel) rfl, atG 98 (by decide +kernel) rfl⟩
theorem lk_Mo_489 : Cond.methodLink "ShadeTownModel" 489 ⟨"ShadeTownModel", "keptHours", "(I)I"⟩ ∈ tblG := atG 1943 (by decide +kernel) rfl
theorem d_Mo_kept_24 : decode prog_13_method_99_code 24 = .ok (.ireturn, 1) := by decide +kernel
theorem d_Mo_kept_8 : decode prog_13_method_99_code 8 = .ok (.iconst (-1), 1) := by decide +kernel
theorem d_Mo_kept_9 : decode prog_13_method_99_code 9 = .ok (.ireturn, 1) := by decide +kernel
theorem d_Mo_kept_5 : decode prog_13_method_99_code 5 = .ok (.ifCond .ne 5, 3) := by decide +kernel
def f_Mo_kept (N : Nat) (σ : Mem) (a1 : Int32) : Option (Int32 × Mem) :=
  bnd1 (f_Mo_isWish σ a1) fun r2 =>
  if r2 = 0 then
    (some ((-1), σ))
  else
    (bnd1 (f_Mo_laysDay N σ) fun σ11 =>
    letv (sI σ11 65 62 0) fun σ16 =>
    bnd1 (f_Mo_keptHours N σ16 a1) fun r21 =>
    some (r21, σ16))
set_option maxHeartbeats 4000000 in
set_option maxRecDepth 20000 in
theorem c_Mo_kept (Z : ZX) {N : Nat} {σ : Mem} {a1 : Int32} {r : Int32} {σ' : Mem} (h : f_Mo_kept N σ a1 = some (r, σ')) : CI Z 6 m_Mo_kept [rf Z 65, .int a1] σ r σ' := by
  refine Ct.of (by decide +kernel) (Nat.le_of_ble_eq_true rfl) (fun Y => ?_)
  show V (mkB Z) Y m_Mo_kept 6 (QP (mkB Z) Y nC 0 0 (fun v t => v = some (.int r) ∧ t = σ')) 0 0 nC σ 0 [(0, rf Z 65), (1, .int a1)] []
  unfold f_Mo_kept at h
  refine V.aload_n d_Mo_kept_0 rfl 0 rfl ?_
  refine V.iload_n d_Mo_kept_1 rfl 1 rfl ?_
  obtain ⟨r2, h1, h⟩ := bnd1_e h
  refine V.vI (as := [.int a1]) (st := []) (c_Mo_isWish Z h1) k_Mo_isWish lk_Mo_486 (by decide) rfl (by decide) ly_65 ok_Mo.1 rfl (Nat.le_of_ble_eq_true rfl) d_Mo_kept_2 ?_
  refine V.if_ne (tgt := 10) d_Mo_kept_5 (by decide) (fun hc5 => ?_) (fun hc5 => ?_)
  · replace h := ite_f hc5 h
    refine V.aload_n d_Mo_kept_10 rfl 0 rfl ?_
    obtain ⟨σ11, h1, h⟩ := bnd1_e h
    refine V.vN (as := []) (st := []) (c_Mo_laysDay Z h1) k_Mo_laysDay lk_Mo_370 (by decide) rfl (by decide) ly_65 ok_Mo.1 rfl (Nat.le_of_ble_eq_true rfl) d_Mo_kept_11 ?_
    refine V.aload_n d_Mo_kept_14 rfl 0 rfl ?_
    refine V.iconst (v := 0) d_Mo_kept_15 (by decide) ?_
    obtain ⟨σ16, e_σ16, h⟩ := letv_e h
    refine V.putI ok_Mo fl_Mo_480 (by decide) (by decide) ly_65 rfl rfl rfl rfl d_Mo_kept_16 (V.mem e_σ16 ?_)
    refine V.aload_n d_Mo_kept_19 rfl 0 rfl ?_
    refine V.iload_n d_Mo_kept_20 rfl 1 rfl ?_
    obtain ⟨r21, h1, h⟩ := bnd1_e h
    refine V.vI (as := [.int a1]) (st := []) (c_Mo_keptHours Z h1) k_Mo_keptHours lk_Mo_489 (by decide) rfl (by decide) ly_65 ok_Mo.1 rfl (Nat.le_of_ble_eq_true rfl) d_Mo_kept_21 ?_
    cases h
    exact V.iret rfl d_Mo_kept_24 ⟨rfl, rfl⟩
  · replace h := ite_t hc5 h
    refine V.iconst (v := (-1)) d_Mo_kept_8 (by decide) ?_
    cases h
    exact V.iret rfl d_Mo_kept_9 ⟨rfl, rfl⟩
abbrev m_Mo_happyBy : MI := (⟨"ShadeTownModel", "happyBy", "(Z)I"⟩, prog_13_method_100_code, 4, (Option.some Jvm.ClassFile.FieldType.int))
theorem d_Mo_happyBy_0 : decode prog_13_method_100_code 0 = .ok (.iconst 0, 1) := by decide +kernel
theorem d_Mo_happyBy_1 : decode prog_13_method_100_code 1 = .ok (.istore_n 2, 1) := by decide +kernel
theorem d_Mo_happyBy_2 : decode prog_13_method_100_code 2 = .ok (.iconst 0, 1) := by decide +kernel
theorem d_Mo_happyBy_3 : decode prog_13_method_100_code 3 = .ok (.istore_n 3, 1) := by decide +kernel
theorem d_Mo_happyBy_4 : decode prog_13_method_100_code 4 = .ok (.iload_n 3, 1) := by decide +kernel
theorem d_Mo_happyBy_5 : decode prog_13_method_100_code 5 = .ok (.bipush 16, 2) := by decide +kernel
theorem d_Mo_happyBy_49 : decode prog_13_method_100_code 49 = .ok (.iload_n 2, 1) := by decide +kernel
theorem d_Mo_happyBy_50 : decode prog_13_method_100_code 50 = .ok (.ireturn, 1) := by decide +kernel
theorem d_Mo_happyBy_10 : decode prog_13_method_100_code 10 = .ok (.aload_n 0, 1) := by decide +kernel
theorem d_Mo_happyBy_11 : decode prog_13_method_100_code 11 = .ok (.iload_n 3, 1) := by decide +kernel
theorem d_Mo_happyBy_12 : decode prog_13_method_100_code 12 = .ok (.invokevirtual 486, 3) := by decide +kernel
theorem d_Mo_happyBy_18 : decode prog_13_method_100_code 18 = .ok (.aload_n 0, 1) := by decide +kernel
theorem d_Mo_happyBy_19 : decode prog_13_method_100_code 19 = .ok (.getfield 124, 3) := by decide +kernel
theorem d_Mo_happyBy_22 : decode prog_13_method_100_code 22 = .ok (.iload_n 3, 1) := by decide +kernel
theorem d_Mo_happyBy_23 : decode prog_13_method_100_code 23 = .ok (.baload, 1) := by decide +kernel
theorem d_Mo_happyBy_24 : decode prog_13_method_100_code 24 = .ok (.iload_n 1, 1) := by decide +kernel
theorem d_Mo_happyBy_28 : decode prog_13_method_100_code 28 = .ok (.iload_n 2, 1) := by decide +kernel
theorem d_Mo_happyBy_29 : decode prog_13_method_100_code 29 = .ok (.aload_n 0, 1) := by decide +kernel
theorem d_Mo_happyBy_30 : decode prog_13_method_100_code 30 = .ok (.getfield 121, 3) := by decide +kernel
theorem d_Mo_happyBy_33 : decode prog_13_method_100_code 33 = .ok (.iload_n 3, 1) := by decide +kernel
theorem d_Mo_happyBy_34 : decode prog_13_method_100_code 34 = .ok (.iaload, 1) := by decide +kernel
theorem d_Mo_happyBy_35 : decode prog_13_method_100_code 35 = .ok (.aload_n 0, 1) := by decide +kernel
theorem d_Mo_happyBy_36 : decode prog_13_method_100_code 36 = .ok (.iload_n 3, 1) := by decide +kernel
theorem d_Mo_happyBy_37 : decode prog_13_method_100_code 37 = .ok (.invokevirtual 489, 3) := by decide +kernel
theorem d_Mo_happyBy_40 : decode prog_13_method_100_code 40 = .ok (.imul, 1) := by decide +kernel
theorem d_Mo_happyBy_41 : decode prog_13_method_100_code 41 = .ok (.iadd, 1) := by decide +kernel
theorem d_Mo_happyBy_42 : decode prog_13_method_100_code 42 = .ok (.istore_n 2, 1) := by decide +kernel
theorem d_Mo_happyBy_25 : decode prog_13_method_100_code 25 = .ok (.if_icmp .ne 18, 3) := by decide +kernel
theorem d_Mo_happyBy_15 : decode prog_13_method_100_code 15 = .ok (.ifCond .eq 28, 3) := by decide +kernel
theorem d_Mo_happyBy_43 : decode prog_13_method_100_code 43 = .ok (.iinc 3 1, 3) := by decide +kernel
theorem d_Mo_happyBy_46 : decode prog_13_method_100_code 46 = .ok (.goto (-42), 3) := by decide +kernel
theorem d_Mo_happyBy_7 : decode prog_13_method_100_code 7 = .ok (.if_icmp .ge 42, 3) := by decide +kernel
def B_Mo_happyBy_l4 (N : Nat) (a1 : Int32) (σ : Mem) (rec : Int32 → Int32 → Option (Int32)) (x2 : Int32) (x3 : Int32) : Option (Int32) :=
  if 16 ≤ x3 then
    (some x2)
  else
    (bnd1 (f_Mo_isWish σ x3) fun r12 =>
    bnd1 ((
      if r12 = 0 then
        (some x2)
      else
        (grd (inb x3 16) <|
        if (mI σ 103 (x3.toNatClampNeg)) = a1 then
          (grd (inb x3 16) <|
          bnd1 (f_Mo_keptHours N σ x3) fun r37 =>
          letv (x2 + ((mI σ 102 (x3.toNatClampNeg)) * r37)) fun v42 =>
          some v42)
        else
          (some x2))) : Option (Int32)) fun y15_2 =>
    letv (x3 + 1) fun v43 =>
    rec y15_2 v43)
def L_Mo_happyBy_l4 (N : Nat) (a1 : Int32) (σ : Mem) : Nat → Int32 → Int32 → Option (Int32)
  | 0, _, _ => none
  | k + 1, x2, x3 => B_Mo_happyBy_l4 N a1 σ (L_Mo_happyBy_l4 N a1 σ k) x2 x3
set_option maxHeartbeats 4000000 in
set_option maxRecDepth 20000 in
theorem cL_Mo_happyBy_l4 (Z : ZX) {Y : YX} {post : Option Value → Mem → Prop} {N : Nat} {a1 : Int32} {σ : Mem} {Good : Int32 → Prop} (hR : ∀ (v : Int32), Good v → post (some (.int v)) σ) : ∀ (k : Nat) (x2 : Int32) (x3 : Int32) (res : Int32), L_Mo_happyBy_l4 N a1 σ k x2 x3 = some res → Good res → V (mkB Z) Y m_Mo_happyBy 2 (QP (mkB Z) Y nC 0 0 post) 0 0 nC σ 4 [(0, rf Z 65), (1, .int a1), (2, .int x2), (3, .int x3)] [] := by
  intro k
  induction k with
  | zero => intro x2 x3 res h; cases h
  | succ k ih =>
    intro x2 x3 res h hg
    replace h : B_Mo_happyBy_l4 N a1 σ (L_Mo_happyBy_l4 N a1 σ k) x2 x3 = some res := h
    unfold B_Mo_happyBy_l4 at h
    refine V.iload_n d_Mo_happyBy_4 rfl 3 rfl ?_
    refine V.bipush (v := 16) d_Mo_happyBy_5 (by decide) ?_
    refine V.icmp_ge (tgt := 49) d_Mo_happyBy_7 (by decide) (fun hc7 => ?_) (fun hc7 => ?_)
    · replace h := ite_t hc7 h
      refine V.iload_n d_Mo_happyBy_49 rfl 2 rfl ?_
      cases h
      exact V.iret rfl d_Mo_happyBy_50 (hR _ hg)
    · replace h := ite_f hc7 h
      refine V.aload_n d_Mo_happyBy_10 rfl 0 rfl ?_
      refine V.iload_n d_Mo_happyBy_11 rfl 3 rfl ?_
      obtain ⟨r12, h1, h⟩ := bnd1_e h
      refine V.vI (as := [.int x3]) (st := []) (c_Mo_isWish Z h1) k_Mo_isWish lk_Mo_486 (by decide) rfl (by decide) ly_65 ok_Mo.1 rfl (Nat.le_of_ble_eq_true rfl) d_Mo_happyBy_12 ?_
      obtain ⟨s15, h1, h⟩ := bnd1_e h
      have J15_43 : ∀ (y15_2 : Int32), s15 = y15_2 → V (mkB Z) Y m_Mo_happyBy 2 (QP (mkB Z) Y nC 0 0 post) 0 0 nC σ 43 [(0, rf Z 65), (1, .int a1), (2, .int y15_2), (3, .int x3)] [] := by
        intro y15_2 he
        rw [he] at h
        obtain ⟨v43, e_v43, h⟩ := letv_e h
        refine V.iinc (v := v43) (lv' := [(3, .int v43), (0, rf Z 65), (1, .int a1), (2, .int y15_2)]) d_Mo_happyBy_43 3 rfl (by rw [e_v43]; rfl) (by decide) rfl ?_
        refine V.goto (tgt := 4) d_Mo_happyBy_46 (by decide) ?_
        exact V.pick [1, 2, 3, 0] rfl (ih _ _ _ h hg)
      replace h := h1
      refine V.if_eq (tgt := 43) d_Mo_happyBy_15 (by decide) (fun hc15 => ?_) (fun hc15 => ?_)
      · replace h := ite_t hc15 h
        exact V.pick [0, 1, 2, 3] rfl (J15_43 _ (Option.some.inj h).symm)
      · replace h := ite_f hc15 h
        refine V.aload_n d_Mo_happyBy_18 rfl 0 rfl ?_
        refine V.getR (r := 103) ok_Mo fl_Mo_124 (by decide) (by decide) ly_65 rfl d_Mo_happyBy_19 ?_
        refine V.iload_n d_Mo_happyBy_22 rfl 3 rfl ?_
        obtain ⟨gq, h⟩ := grd_e h
        refine V.rz (by decide) ly_103 (inb_e gq) rfl d_Mo_happyBy_23 ?_
        refine V.iload_n d_Mo_happyBy_24 rfl 1 rfl ?_
        refine V.icmp_ne (tgt := 43) d_Mo_happyBy_25 (by decide) (fun hc25 => ?_) (fun hc25 => ?_)
        · replace h := ite_f hc25 h
          exact V.pick [0, 1, 2, 3] rfl (J15_43 _ (Option.some.inj h).symm)
        · replace h := ite_t hc25 h
          refine V.iload_n d_Mo_happyBy_28 rfl 2 rfl ?_
          refine V.aload_n d_Mo_happyBy_29 rfl 0 rfl ?_
          refine V.getR (r := 102) ok_Mo fl_Mo_121 (by decide) (by decide) ly_65 rfl d_Mo_happyBy_30 ?_
          refine V.iload_n d_Mo_happyBy_33 rfl 3 rfl ?_
          obtain ⟨gq, h⟩ := grd_e h
          refine V.ra (by decide) ly_102 (inb_e gq) rfl d_Mo_happyBy_34 ?_
          refine V.aload_n d_Mo_happyBy_35 rfl 0 rfl ?_
          refine V.iload_n d_Mo_happyBy_36 rfl 3 rfl ?_
          obtain ⟨r37, h1, h⟩ := bnd1_e h
          refine V.vI (as := [.int x3]) (st := [.int (mI σ 102 (x3.toNatClampNeg)), .int x2]) (c_Mo_keptHours Z h1) k_Mo_keptHours lk_Mo_489 (by decide) rfl (by decide) ly_65 ok_Mo.1 rfl (Nat.le_of_ble_eq_true rfl) d_Mo_happyBy_37 ?_
          refine V.imul d_Mo_happyBy_40 ?_
          refine V.iadd d_Mo_happyBy_41 ?_
          obtain ⟨v42, e_v42, h⟩ := letv_e h
          refine V.topI e_v42 ?_
          refine V.istore_n (lv' := [(2, .int v42), (0, rf Z 65), (1, .int a1), (3, .int x3)]) d_Mo_happyBy_42 rfl (by decide) rfl ?_
          exact V.pick [1, 2, 0, 3] rfl (J15_43 _ (Option.some.inj h).symm)
def f_Mo_happyBy (N : Nat) (σ : Mem) (a1 : Int32) : Option (Int32) :=
  L_Mo_happyBy_l4 N a1 σ N 0 0
set_option maxHeartbeats 4000000 in
set_option maxRecDepth 20000 in
theorem c_Mo_happyBy (Z : ZX) {N : Nat} {σ : Mem} {a1 : Int32} {r : Int32} (h : f_Mo_happyBy N σ a1 = some r) : CI Z 2 m_Mo_happyBy [rf Z 65, .int a1] σ r σ := by
  refine Ct.of (by decide +kernel) (Nat.le_of_ble_eq_true rfl) (fun Y => ?_)
  show V (mkB Z) Y m_Mo_happyBy 2 (QP (mkB Z) Y nC 0 0 (fun v t => v = some (.int r) ∧ t = σ)) 0 0 nC σ 0 [(0, rf Z 65), (1, .int a1)] []
  unfold f_Mo_happyBy at h
  refine V.iconst (v := 0) d_Mo_happyBy_0 (by decide) ?_
  refine V.istore_n (lv' := [(2, .int 0), (0, rf Z 65), (1, .int a1)]) d_Mo_happyBy_1 rfl (by decide) rfl ?_
  refine V.iconst (v := 0) d_Mo_happyBy_2 (by decide) ?_
  refine V.istore_n (lv' := [(3, .int 0), (2, .int 0), (0, rf Z 65), (1, .int a1)]) d_Mo_happyBy_3 rfl (by decide) rfl ?_
  refine V.pick [2, 3, 1, 0] rfl (cL_Mo_happyBy_l4 Z (Good := fun z => z = _) (fun r4v he => ?_) N _ _ _ h rfl)
  · cases he
    exact ⟨rfl, rfl⟩
abbrev m_Mo_happyAll : MI := (⟨"ShadeTownModel", "happyAll", "()I"⟩, prog_13_method_101_code, 1, (Option.some Jvm.ClassFile.FieldType.int))
theorem d_Mo_happyAll_0 : decode prog_13_method_101_code 0 = .ok (.aload_n 0, 1) := by decide +kernel
theorem d_Mo_happyAll_1 : decode prog_13_method_101_code 1 = .ok (.iconst 0, 1) := by decide +kernel
theorem d_Mo_happyAll_2 : decode prog_13_method_101_code 2 = .ok (.invokevirtual 492, 3) := by decide +kernel
theorem k_Mo_happyBy : MOk m_Mo_happyBy 1 ∧ IOk m_Mo_happyBy := ⟨⟨atG 1962 (by decide +kernel) rfl, atG 122 (by decide +kernel) rfl, ⟨by decide, by decide⟩, by decide +kernel, by decide⟩, atG 1961 (by decide +kernel) rfl, atG 101 (by decide +kernel) rfl⟩
theorem lk_Mo_492 : Cond.methodLink "ShadeTownModel" 492 ⟨"ShadeTownModel", "happyBy", "(Z)I"⟩ ∈ tblG := atG 1959 (by decide +kernel) rfl
theorem d_Mo_happyAll_5 : decode prog_13_method_101_code 5 = .ok (.aload_n 0, 1) := by decide +kernel
theorem d_Mo_happyAll_6 : decode prog_13_method_101_code 6 = .ok (.iconst 1, 1) := by decide +kernel
theorem d_Mo_happyAll_7 : decode prog_13_method_101_code 7 = .ok (.invokevirtual 492, 3) := by decide +kernel
theorem d_Mo_happyAll_10 : decode prog_13_method_101_code 10 = .ok (.iadd, 1) := by decide +kernel
theorem d_Mo_happyAll_11 : decode prog_13_method_101_code 11 = .ok (.ireturn, 1) := by decide +kernel
def f_Mo_happyAll (N : Nat) (σ : Mem) : Option (Int32) :=
  bnd1 (f_Mo_happyBy N σ 0) fun r2 =>
  bnd1 (f_Mo_happyBy N σ 1) fun r7 =>
  some (r2 + r7)
set_option maxHeartbeats 4000000 in
set_option maxRecDepth 20000 in
theorem c_Mo_happyAll (Z : ZX) {N : Nat} {σ : Mem} {r : Int32} (h : f_Mo_happyAll N σ = some r) : CI Z 3 m_Mo_happyAll [rf Z 65] σ r σ := by
  refine Ct.of (by decide +kernel) (Nat.le_of_ble_eq_true rfl) (fun Y => ?_)
  show V (mkB Z) Y m_Mo_happyAll 3 (QP (mkB Z) Y nC 0 0 (fun v t => v = some (.int r) ∧ t = σ)) 0 0 nC σ 0 [(0, rf Z 65)] []
  unfold f_Mo_happyAll at h
  refine V.aload_n d_Mo_happyAll_0 rfl 0 rfl ?_
  refine V.iconst (v := 0) d_Mo_happyAll_1 (by decide) ?_
  obtain ⟨r2, h1, h⟩ := bnd1_e h
  refine V.vI (as := [.int 0]) (st := []) (c_Mo_happyBy Z h1) k_Mo_happyBy lk_Mo_492 (by decide) rfl (by decide) ly_65 ok_Mo.1 rfl (Nat.le_of_ble_eq_true rfl) d_Mo_happyAll_2 ?_
  refine V.aload_n d_Mo_happyAll_5 rfl 0 rfl ?_
  refine V.iconst (v := 1) d_Mo_happyAll_6 (by decide) ?_
  obtain ⟨r7, h1, h⟩ := bnd1_e h
  refine V.vI (as := [.int 1]) (st := [.int r2]) (c_Mo_happyBy Z h1) k_Mo_happyBy lk_Mo_492 (by decide) rfl (by decide) ly_65 ok_Mo.1 rfl (Nat.le_of_ble_eq_true rfl) d_Mo_happyAll_7 ?_
  refine V.iadd d_Mo_happyAll_10 ?_
  cases h
  exact V.iret rfl d_Mo_happyAll_11 ⟨rfl, rfl⟩
abbrev m_Mo_happy : MI := (⟨"ShadeTownModel", "happy", "()I"⟩, prog_13_method_102_code, 1, (Option.some Jvm.ClassFile.FieldType.int))
theorem d_Mo_happy_0 : decode prog_13_method_102_code 0 = .ok (.aload_n 0, 1) := by decide +kernel
theorem d_Mo_happy_1 : decode prog_13_method_102_code 1 = .ok (.invokevirtual 370, 3) := by decide +kernel
theorem d_Mo_happy_4 : decode prog_13_method_102_code 4 = .ok (.aload_n 0, 1) := by decide +kernel
theorem d_Mo_happy_5 : decode prog_13_method_102_code 5 = .ok (.iconst 0, 1) := by decide +kernel
theorem d_Mo_happy_6 : decode prog_13_method_102_code 6 = .ok (.putfield 480, 3) := by decide +kernel
theorem d_Mo_happy_9 : decode prog_13_method_102_code 9 = .ok (.aload_n 0, 1) := by decide +kernel
theorem d_Mo_happy_10 : decode prog_13_method_102_code 10 = .ok (.invokevirtual 496, 3) := by decide +kernel
theorem k_Mo_happyAll : MOk m_Mo_happyAll 0 ∧ IOk m_Mo_happyAll := ⟨⟨atG 1958 (by decide +kernel) rfl, atG 122 (by decide +kernel) rfl, ⟨by decide, by decide⟩, by decide +kernel, by decide⟩, atG 1957 (by decide +kernel) rfl, atG 100 (by decide +kernel) rfl⟩
theorem lk_Mo_496 : Cond.methodLink "ShadeTownModel" 496 ⟨"ShadeTownModel", "happyAll", "()I"⟩ ∈ tblG := atG 1955 (by decide +kernel) rfl
theorem d_Mo_happy_13 : decode prog_13_method_102_code 13 = .ok (.ireturn, 1) := by decide +kernel
def f_Mo_happy (N : Nat) (σ : Mem) : Option (Int32 × Mem) :=
  bnd1 (f_Mo_laysDay N σ) fun σ1 =>
  letv (sI σ1 65 62 0) fun σ6 =>
  bnd1 (f_Mo_happyAll N σ6) fun r10 =>
  some (r10, σ6)
set_option maxHeartbeats 4000000 in
set_option maxRecDepth 20000 in
theorem c_Mo_happy (Z : ZX) {N : Nat} {σ : Mem} {r : Int32} {σ' : Mem} (h : f_Mo_happy N σ = some (r, σ')) : CI Z 6 m_Mo_happy [rf Z 65] σ r σ' := by
  refine Ct.of (by decide +kernel) (Nat.le_of_ble_eq_true rfl) (fun Y => ?_)
  show V (mkB Z) Y m_Mo_happy 6 (QP (mkB Z) Y nC 0 0 (fun v t => v = some (.int r) ∧ t = σ')) 0 0 nC σ 0 [(0, rf Z 65)] []
  unfold f_Mo_happy at h
  refine V.aload_n d_Mo_happy_0 rfl 0 rfl ?_
  obtain ⟨σ1, h1, h⟩ := bnd1_e h
  refine V.vN (as := []) (st := []) (c_Mo_laysDay Z h1) k_Mo_laysDay lk_Mo_370 (by decide) rfl (by decide) ly_65 ok_Mo.1 rfl (Nat.le_of_ble_eq_true rfl) d_Mo_happy_1 ?_
  refine V.aload_n d_Mo_happy_4 rfl 0 rfl ?_
  refine V.iconst (v := 0) d_Mo_happy_5 (by decide) ?_
  obtain ⟨σ6, e_σ6, h⟩ := letv_e h
  refine V.putI ok_Mo fl_Mo_480 (by decide) (by decide) ly_65 rfl rfl rfl rfl d_Mo_happy_6 (V.mem e_σ6 ?_)
  refine V.aload_n d_Mo_happy_9 rfl 0 rfl ?_
  obtain ⟨r10, h1, h⟩ := bnd1_e h
  refine V.vI (as := []) (st := []) (c_Mo_happyAll Z h1) k_Mo_happyAll lk_Mo_496 (by decide) rfl (by decide) ly_65 ok_Mo.1 rfl (Nat.le_of_ble_eq_true rfl) d_Mo_happy_10 ?_
  cases h
  exact V.iret rfl d_Mo_happy_13 ⟨rfl, rfl⟩
