abbrev m_Mo_undo : MI := (⟨"ShadeTownModel", "undo", "()Z"⟩, prog_13_method_122_code, 1, (Option.some Jvm.ClassFile.FieldType.boolean))
theorem d_Mo_undo_0 : decode prog_13_method_122_code 0 = .ok (.aload_n 0, 1) := by decide +kernel
theorem d_Mo_undo_1 : decode prog_13_method_122_code 1 = .ok (.getfield 525, 3) := by decide +kernel
theorem d_Mo_undo_9 : decode prog_13_method_122_code 9 = .ok (.aload_n 0, 1) := by decide +kernel
theorem d_Mo_undo_10 : decode prog_13_method_122_code 10 = .ok (.aload_n 0, 1) := by decide +kernel
theorem d_Mo_undo_11 : decode prog_13_method_122_code 11 = .ok (.getfield 529, 3) := by decide +kernel
theorem d_Mo_undo_14 : decode prog_13_method_122_code 14 = .ok (.putfield 167, 3) := by decide +kernel
theorem d_Mo_undo_17 : decode prog_13_method_122_code 17 = .ok (.aload_n 0, 1) := by decide +kernel
theorem d_Mo_undo_18 : decode prog_13_method_122_code 18 = .ok (.aload_n 0, 1) := by decide +kernel
theorem d_Mo_undo_19 : decode prog_13_method_122_code 19 = .ok (.getfield 532, 3) := by decide +kernel
theorem d_Mo_undo_22 : decode prog_13_method_122_code 22 = .ok (.putfield 174, 3) := by decide +kernel
theorem d_Mo_undo_25 : decode prog_13_method_122_code 25 = .ok (.aload_n 0, 1) := by decide +kernel
theorem d_Mo_undo_26 : decode prog_13_method_122_code 26 = .ok (.aload_n 0, 1) := by decide +kernel
theorem d_Mo_undo_27 : decode prog_13_method_122_code 27 = .ok (.getfield 535, 3) := by decide +kernel
theorem d_Mo_undo_30 : decode prog_13_method_122_code 30 = .ok (.putfield 202, 3) := by decide +kernel
theorem d_Mo_undo_33 : decode prog_13_method_122_code 33 = .ok (.aload_n 0, 1) := by decide +kernel
theorem d_Mo_undo_34 : decode prog_13_method_122_code 34 = .ok (.aload_n 0, 1) := by decide +kernel
theorem d_Mo_undo_35 : decode prog_13_method_122_code 35 = .ok (.getfield 538, 3) := by decide +kernel
theorem d_Mo_undo_38 : decode prog_13_method_122_code 38 = .ok (.putfield 163, 3) := by decide +kernel
theorem d_Mo_undo_41 : decode prog_13_method_122_code 41 = .ok (.aload_n 0, 1) := by decide +kernel
theorem d_Mo_undo_42 : decode prog_13_method_122_code 42 = .ok (.getfield 145, 3) := by decide +kernel
theorem d_Mo_undo_45 : decode prog_13_method_122_code 45 = .ok (.aload_n 0, 1) := by decide +kernel
theorem d_Mo_undo_46 : decode prog_13_method_122_code 46 = .ok (.getfield 7, 3) := by decide +kernel
theorem d_Mo_undo_49 : decode prog_13_method_122_code 49 = .ok (.bipush 16, 2) := by decide +kernel
theorem d_Mo_undo_51 : decode prog_13_method_122_code 51 = .ok (.invokestatic 541, 3) := by decide +kernel
theorem d_Mo_undo_54 : decode prog_13_method_122_code 54 = .ok (.aload_n 0, 1) := by decide +kernel
theorem d_Mo_undo_55 : decode prog_13_method_122_code 55 = .ok (.getfield 148, 3) := by decide +kernel
theorem d_Mo_undo_58 : decode prog_13_method_122_code 58 = .ok (.aload_n 0, 1) := by decide +kernel
theorem d_Mo_undo_59 : decode prog_13_method_122_code 59 = .ok (.getfield 13, 3) := by decide +kernel
theorem d_Mo_undo_62 : decode prog_13_method_122_code 62 = .ok (.bipush 16, 2) := by decide +kernel
theorem d_Mo_undo_64 : decode prog_13_method_122_code 64 = .ok (.invokestatic 541, 3) := by decide +kernel
theorem d_Mo_undo_67 : decode prog_13_method_122_code 67 = .ok (.aload_n 0, 1) := by decide +kernel
theorem d_Mo_undo_68 : decode prog_13_method_122_code 68 = .ok (.getfield 151, 3) := by decide +kernel
theorem d_Mo_undo_71 : decode prog_13_method_122_code 71 = .ok (.aload_n 0, 1) := by decide +kernel
theorem d_Mo_undo_72 : decode prog_13_method_122_code 72 = .ok (.getfield 16, 3) := by decide +kernel
theorem d_Mo_undo_75 : decode prog_13_method_122_code 75 = .ok (.bipush 16, 2) := by decide +kernel
theorem d_Mo_undo_77 : decode prog_13_method_122_code 77 = .ok (.invokestatic 541, 3) := by decide +kernel
theorem d_Mo_undo_80 : decode prog_13_method_122_code 80 = .ok (.aload_n 0, 1) := by decide +kernel
theorem d_Mo_undo_81 : decode prog_13_method_122_code 81 = .ok (.getfield 154, 3) := by decide +kernel
theorem d_Mo_undo_84 : decode prog_13_method_122_code 84 = .ok (.aload_n 0, 1) := by decide +kernel
theorem d_Mo_undo_85 : decode prog_13_method_122_code 85 = .ok (.getfield 19, 3) := by decide +kernel
theorem d_Mo_undo_88 : decode prog_13_method_122_code 88 = .ok (.bipush 16, 2) := by decide +kernel
theorem d_Mo_undo_90 : decode prog_13_method_122_code 90 = .ok (.invokestatic 541, 3) := by decide +kernel
theorem d_Mo_undo_93 : decode prog_13_method_122_code 93 = .ok (.aload_n 0, 1) := by decide +kernel
theorem d_Mo_undo_94 : decode prog_13_method_122_code 94 = .ok (.getfield 157, 3) := by decide +kernel
theorem d_Mo_undo_97 : decode prog_13_method_122_code 97 = .ok (.aload_n 0, 1) := by decide +kernel
theorem d_Mo_undo_98 : decode prog_13_method_122_code 98 = .ok (.getfield 22, 3) := by decide +kernel
theorem d_Mo_undo_101 : decode prog_13_method_122_code 101 = .ok (.bipush 16, 2) := by decide +kernel
theorem d_Mo_undo_103 : decode prog_13_method_122_code 103 = .ok (.invokestatic 541, 3) := by decide +kernel
theorem d_Mo_undo_106 : decode prog_13_method_122_code 106 = .ok (.aload_n 0, 1) := by decide +kernel
theorem d_Mo_undo_107 : decode prog_13_method_122_code 107 = .ok (.getfield 160, 3) := by decide +kernel
theorem d_Mo_undo_110 : decode prog_13_method_122_code 110 = .ok (.aload_n 0, 1) := by decide +kernel
theorem d_Mo_undo_111 : decode prog_13_method_122_code 111 = .ok (.getfield 25, 3) := by decide +kernel
theorem d_Mo_undo_114 : decode prog_13_method_122_code 114 = .ok (.bipush 6, 2) := by decide +kernel
theorem d_Mo_undo_116 : decode prog_13_method_122_code 116 = .ok (.invokestatic 541, 3) := by decide +kernel
theorem d_Mo_undo_119 : decode prog_13_method_122_code 119 = .ok (.iconst 1, 1) := by decide +kernel
theorem d_Mo_undo_120 : decode prog_13_method_122_code 120 = .ok (.ireturn, 1) := by decide +kernel
theorem d_Mo_undo_7 : decode prog_13_method_122_code 7 = .ok (.iconst 0, 1) := by decide +kernel
theorem d_Mo_undo_8 : decode prog_13_method_122_code 8 = .ok (.ireturn, 1) := by decide +kernel
theorem d_Mo_undo_4 : decode prog_13_method_122_code 4 = .ok (.ifCond .ne 5, 3) := by decide +kernel
def f_Mo_undo (N : Nat) (σ : Mem) : Option (Int32 × Mem) :=
  if (mI σ 65 68) = 0 then
    (some (0, σ))
  else
    (letv (sI σ 65 0 (mI σ 65 69)) fun σ14 =>
    letv (sI σ14 65 1 (mI σ14 65 70)) fun σ22 =>
    letv (sI σ22 65 2 (mI σ22 65 71)) fun σ30 =>
    letv (sI σ30 65 3 (mI σ30 65 72)) fun σ38 =>
    bnd1 (f_Mo_copies N σ38 110 17 66 17 16) fun σ51 =>
    bnd1 (f_Mo_copies N σ51 111 17 67 17 16) fun σ64 =>
    bnd1 (f_Mo_copies N σ64 112 17 68 17 16) fun σ77 =>
    bnd1 (f_Mo_copies N σ77 113 17 69 17 16) fun σ90 =>
    bnd1 (f_Mo_copies N σ90 114 17 70 17 16) fun σ103 =>
    bnd1 (f_Mo_copies N σ103 115 6 71 6 6) fun σ116 =>
    some (1, σ116))
set_option maxHeartbeats 4000000 in
set_option maxRecDepth 20000 in
theorem c_Mo_undo (Z : ZX) {N : Nat} {σ : Mem} {r : Int32} {σ' : Mem} (h : f_Mo_undo N σ = some (r, σ')) : CI Z 1 m_Mo_undo [rf Z 65] σ r σ' := by
  refine Ct.of (by decide +kernel) (Nat.le_of_ble_eq_true rfl) (fun Y => ?_)
  show V (mkB Z) Y m_Mo_undo 1 (QP (mkB Z) Y nC 0 0 (fun v t => v = some (.int r) ∧ t = σ')) 0 0 nC σ 0 [(0, rf Z 65)] []
  unfold f_Mo_undo at h
  refine V.aload_n d_Mo_undo_0 rfl 0 rfl ?_
  refine V.getI ok_Mo fl_Mo_525 (by decide) (by decide) ly_65 rfl d_Mo_undo_1 ?_
  refine V.if_ne (tgt := 9) d_Mo_undo_4 (by decide) (fun hc4 => ?_) (fun hc4 => ?_)
  · replace h := ite_f hc4 h
    refine V.aload_n d_Mo_undo_9 rfl 0 rfl ?_
    refine V.aload_n d_Mo_undo_10 rfl 0 rfl ?_
    refine V.getI ok_Mo fl_Mo_529 (by decide) (by decide) ly_65 rfl d_Mo_undo_11 ?_
    obtain ⟨σ14, e_σ14, h⟩ := letv_e h
    refine V.putI ok_Mo fl_Mo_167 (by decide) (by decide) ly_65 rfl rfl rfl rfl d_Mo_undo_14 (V.mem e_σ14 ?_)
    refine V.aload_n d_Mo_undo_17 rfl 0 rfl ?_
    refine V.aload_n d_Mo_undo_18 rfl 0 rfl ?_
    refine V.getI ok_Mo fl_Mo_532 (by decide) (by decide) ly_65 rfl d_Mo_undo_19 ?_
    obtain ⟨σ22, e_σ22, h⟩ := letv_e h
    refine V.putI ok_Mo fl_Mo_174 (by decide) (by decide) ly_65 rfl rfl rfl rfl d_Mo_undo_22 (V.mem e_σ22 ?_)
    refine V.aload_n d_Mo_undo_25 rfl 0 rfl ?_
    refine V.aload_n d_Mo_undo_26 rfl 0 rfl ?_
    refine V.getI ok_Mo fl_Mo_535 (by decide) (by decide) ly_65 rfl d_Mo_undo_27 ?_
    obtain ⟨σ30, e_σ30, h⟩ := letv_e h
    refine V.putI ok_Mo fl_Mo_202 (by decide) (by decide) ly_65 rfl rfl rfl rfl d_Mo_undo_30 (V.mem e_σ30 ?_)
    refine V.aload_n d_Mo_undo_33 rfl 0 rfl ?_
    refine V.aload_n d_Mo_undo_34 rfl 0 rfl ?_
    refine V.getI ok_Mo fl_Mo_538 (by decide) (by decide) ly_65 rfl d_Mo_undo_35 ?_
    obtain ⟨σ38, e_σ38, h⟩ := letv_e h
    refine V.putI ok_Mo fl_Mo_163 (by decide) (by decide) ly_65 rfl rfl rfl rfl d_Mo_undo_38 (V.mem e_σ38 ?_)
    refine V.aload_n d_Mo_undo_41 rfl 0 rfl ?_
    refine V.getR (r := 110) ok_Mo fl_Mo_145 (by decide) (by decide) ly_65 rfl d_Mo_undo_42 ?_
    refine V.aload_n d_Mo_undo_45 rfl 0 rfl ?_
    refine V.getR (r := 66) ok_Mo fl_Mo_7 (by decide) (by decide) ly_65 rfl d_Mo_undo_46 ?_
    refine V.bipush (v := 16) d_Mo_undo_49 (by decide) ?_
    obtain ⟨σ51, h1, h⟩ := bnd1_e h
    refine V.sN (as := [rf Z 110, rf Z 66, .int 16]) (st := []) (c_Mo_copies Z (by decide) ly_110 (by decide) ly_66 h1) k_Mo_copies lk_Mo_541 (by decide) rfl rfl (Nat.le_of_ble_eq_true rfl) d_Mo_undo_51 ?_
    refine V.aload_n d_Mo_undo_54 rfl 0 rfl ?_
    refine V.getR (r := 111) ok_Mo fl_Mo_148 (by decide) (by decide) ly_65 rfl d_Mo_undo_55 ?_
    refine V.aload_n d_Mo_undo_58 rfl 0 rfl ?_
    refine V.getR (r := 67) ok_Mo fl_Mo_13 (by decide) (by decide) ly_65 rfl d_Mo_undo_59 ?_
    refine V.bipush (v := 16) d_Mo_undo_62 (by decide) ?_
    obtain ⟨σ64, h1, h⟩ := bnd1_e h
    refine V.sN (as := [rf Z 111, rf Z 67, .int 16]) (st := []) (c_Mo_copies Z (by decide) ly_111 (by decide) ly_67 h1) k_Mo_copies lk_Mo_541 (by decide) rfl rfl (Nat.le_of_ble_eq_true rfl) d_Mo_undo_64 ?_
    refine V.aload_n d_Mo_undo_67 rfl 0 rfl ?_
    refine V.getR (r := 112) ok_Mo fl_Mo_151 (by decide) (by decide) ly_65 rfl d_Mo_undo_68 ?_
    refine V.aload_n d_Mo_undo_71 rfl 0 rfl ?_
    refine V.getR (r := 68) ok_Mo fl_Mo_16 (by decide) (by decide) ly_65 rfl d_Mo_undo_72 ?_
    refine V.bipush (v := 16) d_Mo_undo_75 (by decide) ?_
    obtain ⟨σ77, h1, h⟩ := bnd1_e h
    refine V.sN (as := [rf Z 112, rf Z 68, .int 16]) (st := []) (c_Mo_copies Z (by decide) ly_112 (by decide) ly_68 h1) k_Mo_copies lk_Mo_541 (by decide) rfl rfl (Nat.le_of_ble_eq_true rfl) d_Mo_undo_77 ?_
    refine V.aload_n d_Mo_undo_80 rfl 0 rfl ?_
    refine V.getR (r := 113) ok_Mo fl_Mo_154 (by decide) (by decide) ly_65 rfl d_Mo_undo_81 ?_
    refine V.aload_n d_Mo_undo_84 rfl 0 rfl ?_
    refine V.getR (r := 69) ok_Mo fl_Mo_19 (by decide) (by decide) ly_65 rfl d_Mo_undo_85 ?_
    refine V.bipush (v := 16) d_Mo_undo_88 (by decide) ?_
    obtain ⟨σ90, h1, h⟩ := bnd1_e h
    refine V.sN (as := [rf Z 113, rf Z 69, .int 16]) (st := []) (c_Mo_copies Z (by decide) ly_113 (by decide) ly_69 h1) k_Mo_copies lk_Mo_541 (by decide) rfl rfl (Nat.le_of_ble_eq_true rfl) d_Mo_undo_90 ?_
    refine V.aload_n d_Mo_undo_93 rfl 0 rfl ?_
    refine V.getR (r := 114) ok_Mo fl_Mo_157 (by decide) (by decide) ly_65 rfl d_Mo_undo_94 ?_
    refine V.aload_n d_Mo_undo_97 rfl 0 rfl ?_
    refine V.getR (r := 70) ok_Mo fl_Mo_22 (by decide) (by decide) ly_65 rfl d_Mo_undo_98 ?_
    refine V.bipush (v := 16) d_Mo_undo_101 (by decide) ?_
    obtain ⟨σ103, h1, h⟩ := bnd1_e h
    refine V.sN (as := [rf Z 114, rf Z 70, .int 16]) (st := []) (c_Mo_copies Z (by decide) ly_114 (by decide) ly_70 h1) k_Mo_copies lk_Mo_541 (by decide) rfl rfl (Nat.le_of_ble_eq_true rfl) d_Mo_undo_103 ?_
    refine V.aload_n d_Mo_undo_106 rfl 0 rfl ?_
    refine V.getR (r := 115) ok_Mo fl_Mo_160 (by decide) (by decide) ly_65 rfl d_Mo_undo_107 ?_
    refine V.aload_n d_Mo_undo_110 rfl 0 rfl ?_
    refine V.getR (r := 71) ok_Mo fl_Mo_25 (by decide) (by decide) ly_65 rfl d_Mo_undo_111 ?_
    refine V.bipush (v := 6) d_Mo_undo_114 (by decide) ?_
    obtain ⟨σ116, h1, h⟩ := bnd1_e h
    refine V.sN (as := [rf Z 115, rf Z 71, .int 6]) (st := []) (c_Mo_copies Z (by decide) ly_115 (by decide) ly_71 h1) k_Mo_copies lk_Mo_541 (by decide) rfl rfl (Nat.le_of_ble_eq_true rfl) d_Mo_undo_116 ?_
    refine V.iconst (v := 1) d_Mo_undo_119 (by decide) ?_
    cases h
    exact V.zret rfl rfl d_Mo_undo_120 ⟨rfl, rfl⟩
  · replace h := ite_t hc4 h
    refine V.iconst (v := 0) d_Mo_undo_7 (by decide) ?_
    cases h
    exact V.zret rfl rfl d_Mo_undo_8 ⟨rfl, rfl⟩
abbrev m_Mo_tapeNumber : MI := (⟨"ShadeTownModel", "tapeNumber", "(I)I"⟩, prog_13_method_123_code, 4, (Option.some Jvm.ClassFile.FieldType.int))
theorem d_Mo_tapeNumber_0 : decode prog_13_method_123_code 0 = .ok (.iconst 0, 1) := by decide +kernel
theorem d_Mo_tapeNumber_1 : decode prog_13_method_123_code 1 = .ok (.istore_n 2, 1) := by decide +kernel
theorem d_Mo_tapeNumber_2 : decode prog_13_method_123_code 2 = .ok (.iconst 4, 1) := by decide +kernel
theorem d_Mo_tapeNumber_3 : decode prog_13_method_123_code 3 = .ok (.iload_n 1, 1) := by decide +kernel
theorem d_Mo_tapeNumber_4 : decode prog_13_method_123_code 4 = .ok (.imul, 1) := by decide +kernel
theorem d_Mo_tapeNumber_5 : decode prog_13_method_123_code 5 = .ok (.istore_n 3, 1) := by decide +kernel
theorem d_Mo_tapeNumber_6 : decode prog_13_method_123_code 6 = .ok (.iload_n 3, 1) := by decide +kernel
theorem d_Mo_tapeNumber_7 : decode prog_13_method_123_code 7 = .ok (.iconst 4, 1) := by decide +kernel
theorem d_Mo_tapeNumber_8 : decode prog_13_method_123_code 8 = .ok (.iload_n 1, 1) := by decide +kernel
theorem d_Mo_tapeNumber_9 : decode prog_13_method_123_code 9 = .ok (.imul, 1) := by decide +kernel
theorem d_Mo_tapeNumber_10 : decode prog_13_method_123_code 10 = .ok (.iconst 4, 1) := by decide +kernel
theorem d_Mo_tapeNumber_11 : decode prog_13_method_123_code 11 = .ok (.iadd, 1) := by decide +kernel
theorem d_Mo_tapeNumber_37 : decode prog_13_method_123_code 37 = .ok (.iload_n 2, 1) := by decide +kernel
theorem d_Mo_tapeNumber_38 : decode prog_13_method_123_code 38 = .ok (.ireturn, 1) := by decide +kernel
theorem d_Mo_tapeNumber_15 : decode prog_13_method_123_code 15 = .ok (.iload_n 2, 1) := by decide +kernel
theorem d_Mo_tapeNumber_16 : decode prog_13_method_123_code 16 = .ok (.bipush 8, 2) := by decide +kernel
theorem d_Mo_tapeNumber_18 : decode prog_13_method_123_code 18 = .ok (.ishl, 1) := by decide +kernel
theorem d_Mo_tapeNumber_19 : decode prog_13_method_123_code 19 = .ok (.aload_n 0, 1) := by decide +kernel
theorem d_Mo_tapeNumber_20 : decode prog_13_method_123_code 20 = .ok (.getfield 28, 3) := by decide +kernel
theorem d_Mo_tapeNumber_23 : decode prog_13_method_123_code 23 = .ok (.iload_n 3, 1) := by decide +kernel
theorem d_Mo_tapeNumber_24 : decode prog_13_method_123_code 24 = .ok (.baload, 1) := by decide +kernel
theorem d_Mo_tapeNumber_25 : decode prog_13_method_123_code 25 = .ok (.sipush 255, 3) := by decide +kernel
theorem d_Mo_tapeNumber_28 : decode prog_13_method_123_code 28 = .ok (.iand, 1) := by decide +kernel
theorem d_Mo_tapeNumber_29 : decode prog_13_method_123_code 29 = .ok (.ior, 1) := by decide +kernel
theorem d_Mo_tapeNumber_30 : decode prog_13_method_123_code 30 = .ok (.istore_n 2, 1) := by decide +kernel
theorem d_Mo_tapeNumber_31 : decode prog_13_method_123_code 31 = .ok (.iinc 3 1, 3) := by decide +kernel
theorem d_Mo_tapeNumber_34 : decode prog_13_method_123_code 34 = .ok (.goto (-28), 3) := by decide +kernel
theorem d_Mo_tapeNumber_12 : decode prog_13_method_123_code 12 = .ok (.if_icmp .ge 25, 3) := by decide +kernel
def B_Mo_tapeNumber_l6 (N : Nat) (a1 : Int32) (σ : Mem) (rec : Int32 → Int32 → Option (Int32)) (x2 : Int32) (x3 : Int32) : Option (Int32) :=
  if ((4 * a1) + 4) ≤ x3 then
    (some x2)
  else
    (grd (inb x3 260) <|
    letv ((x2 <<< (8 &&& 31)) ||| ((mI σ 72 (x3.toNatClampNeg)) &&& 255)) fun v30 =>
    letv (x3 + 1) fun v31 =>
    rec v30 v31)
def L_Mo_tapeNumber_l6 (N : Nat) (a1 : Int32) (σ : Mem) : Nat → Int32 → Int32 → Option (Int32)
  | 0, _, _ => none
  | k + 1, x2, x3 => B_Mo_tapeNumber_l6 N a1 σ (L_Mo_tapeNumber_l6 N a1 σ k) x2 x3
set_option maxHeartbeats 4000000 in
set_option maxRecDepth 20000 in
theorem cL_Mo_tapeNumber_l6 (Z : ZX) {Y : YX} {post : Option Value → Mem → Prop} {N : Nat} {a1 : Int32} {σ : Mem} {Good : Int32 → Prop} (hR : ∀ (v : Int32), Good v → post (some (.int v)) σ) : ∀ (k : Nat) (x2 : Int32) (x3 : Int32) (res : Int32), L_Mo_tapeNumber_l6 N a1 σ k x2 x3 = some res → Good res → V (mkB Z) Y m_Mo_tapeNumber 0 (QP (mkB Z) Y nC 0 0 post) 0 0 nC σ 6 [(0, rf Z 65), (1, .int a1), (2, .int x2), (3, .int x3)] [] := by
  intro k
  induction k with
  | zero => intro x2 x3 res h; cases h
  | succ k ih =>
    intro x2 x3 res h hg
    replace h : B_Mo_tapeNumber_l6 N a1 σ (L_Mo_tapeNumber_l6 N a1 σ k) x2 x3 = some res := h
    unfold B_Mo_tapeNumber_l6 at h
    refine V.iload_n d_Mo_tapeNumber_6 rfl 3 rfl ?_
    refine V.iconst (v := 4) d_Mo_tapeNumber_7 (by decide) ?_
    refine V.iload_n d_Mo_tapeNumber_8 rfl 1 rfl ?_
    refine V.imul d_Mo_tapeNumber_9 ?_
    refine V.iconst (v := 4) d_Mo_tapeNumber_10 (by decide) ?_
    refine V.iadd d_Mo_tapeNumber_11 ?_
    refine V.icmp_ge (tgt := 37) d_Mo_tapeNumber_12 (by decide) (fun hc12 => ?_) (fun hc12 => ?_)
    · replace h := ite_t hc12 h
      refine V.iload_n d_Mo_tapeNumber_37 rfl 2 rfl ?_
      cases h
      exact V.iret rfl d_Mo_tapeNumber_38 (hR _ hg)
    · replace h := ite_f hc12 h
      refine V.iload_n d_Mo_tapeNumber_15 rfl 2 rfl ?_
      refine V.bipush (v := 8) d_Mo_tapeNumber_16 (by decide) ?_
      refine V.ishl d_Mo_tapeNumber_18 ?_
      refine V.aload_n d_Mo_tapeNumber_19 rfl 0 rfl ?_
      refine V.getR (r := 72) ok_Mo fl_Mo_28 (by decide) (by decide) ly_65 rfl d_Mo_tapeNumber_20 ?_
      refine V.iload_n d_Mo_tapeNumber_23 rfl 3 rfl ?_
      obtain ⟨gq, h⟩ := grd_e h
      refine V.rb (by decide) ly_72 (inb_e gq) rfl d_Mo_tapeNumber_24 ?_
      refine V.sipush (v := 255) d_Mo_tapeNumber_25 (by decide) ?_
      refine V.iand d_Mo_tapeNumber_28 ?_
      refine V.ior d_Mo_tapeNumber_29 ?_
      obtain ⟨v30, e_v30, h⟩ := letv_e h
      refine V.topI e_v30 ?_
      refine V.istore_n (lv' := [(2, .int v30), (0, rf Z 65), (1, .int a1), (3, .int x3)]) d_Mo_tapeNumber_30 rfl (by decide) rfl ?_
      obtain ⟨v31, e_v31, h⟩ := letv_e h
      refine V.iinc (v := v31) (lv' := [(3, .int v31), (2, .int v30), (0, rf Z 65), (1, .int a1)]) d_Mo_tapeNumber_31 3 rfl (by rw [e_v31]; rfl) (by decide) rfl ?_
      refine V.goto (tgt := 6) d_Mo_tapeNumber_34 (by decide) ?_
      exact V.pick [2, 3, 1, 0] rfl (ih _ _ _ h hg)
def f_Mo_tapeNumber (N : Nat) (σ : Mem) (a1 : Int32) : Option (Int32) :=
  letv (4 * a1) fun v5 =>
  L_Mo_tapeNumber_l6 N a1 σ N 0 v5
set_option maxHeartbeats 4000000 in
set_option maxRecDepth 20000 in
theorem c_Mo_tapeNumber (Z : ZX) {N : Nat} {σ : Mem} {a1 : Int32} {r : Int32} (h : f_Mo_tapeNumber N σ a1 = some r) : CI Z 0 m_Mo_tapeNumber [rf Z 65, .int a1] σ r σ := by
  refine Ct.of (by decide +kernel) (Nat.le_of_ble_eq_true rfl) (fun Y => ?_)
  show V (mkB Z) Y m_Mo_tapeNumber 0 (QP (mkB Z) Y nC 0 0 (fun v t => v = some (.int r) ∧ t = σ)) 0 0 nC σ 0 [(0, rf Z 65), (1, .int a1)] []
  unfold f_Mo_tapeNumber at h
  refine V.iconst (v := 0) d_Mo_tapeNumber_0 (by decide) ?_
  refine V.istore_n (lv' := [(2, .int 0), (0, rf Z 65), (1, .int a1)]) d_Mo_tapeNumber_1 rfl (by decide) rfl ?_
  refine V.iconst (v := 4) d_Mo_tapeNumber_2 (by decide) ?_
  refine V.iload_n d_Mo_tapeNumber_3 rfl 2 rfl ?_
  refine V.imul d_Mo_tapeNumber_4 ?_
  obtain ⟨v5, e_v5, h⟩ := letv_e h
  refine V.topI e_v5 ?_
  refine V.istore_n (lv' := [(3, .int v5), (2, .int 0), (0, rf Z 65), (1, .int a1)]) d_Mo_tapeNumber_5 rfl (by decide) rfl ?_
  refine V.pick [2, 3, 1, 0] rfl (cL_Mo_tapeNumber_l6 Z (Good := fun z => z = _) (fun r6v he => ?_) N _ _ _ h rfl)
  · cases he
    exact ⟨rfl, rfl⟩
abbrev m_Mo_check : MI := (⟨"ShadeTownModel", "check", "(III)I"⟩, prog_13_method_124_code, 5, (Option.some Jvm.ClassFile.FieldType.int))
theorem d_Mo_check_0 : decode prog_13_method_124_code 0 = .ok (.iload_n 1, 1) := by decide +kernel
theorem d_Mo_check_1 : decode prog_13_method_124_code 1 = .ok (.invokestatic 321, 3) := by decide +kernel
theorem d_Mo_check_37 : decode prog_13_method_124_code 37 = .ok (.bipush (-2), 2) := by decide +kernel
theorem d_Mo_check_39 : decode prog_13_method_124_code 39 = .ok (.ireturn, 1) := by decide +kernel
theorem d_Mo_check_7 : decode prog_13_method_124_code 7 = .ok (.iload_n 2, 1) := by decide +kernel
theorem d_Mo_check_8 : decode prog_13_method_124_code 8 = .ok (.iconst 0, 1) := by decide +kernel
theorem d_Mo_check_9 : decode prog_13_method_124_code 9 = .ok (.bipush 11, 2) := by decide +kernel
theorem d_Mo_check_11 : decode prog_13_method_124_code 11 = .ok (.invokestatic 188, 3) := by decide +kernel
theorem d_Mo_check_17 : decode prog_13_method_124_code 17 = .ok (.iload_n 3, 1) := by decide +kernel
theorem d_Mo_check_18 : decode prog_13_method_124_code 18 = .ok (.iconst 0, 1) := by decide +kernel
theorem d_Mo_check_19 : decode prog_13_method_124_code 19 = .ok (.bipush 12, 2) := by decide +kernel
theorem d_Mo_check_21 : decode prog_13_method_124_code 21 = .ok (.invokestatic 188, 3) := by decide +kernel
theorem d_Mo_check_27 : decode prog_13_method_124_code 27 = .ok (.iload_n 3, 1) := by decide +kernel
theorem d_Mo_check_28 : decode prog_13_method_124_code 28 = .ok (.aload_n 0, 1) := by decide +kernel
theorem d_Mo_check_29 : decode prog_13_method_124_code 29 = .ok (.getfield 205, 3) := by decide +kernel
theorem d_Mo_check_32 : decode prog_13_method_124_code 32 = .ok (.iconst 4, 1) := by decide +kernel
theorem d_Mo_check_33 : decode prog_13_method_124_code 33 = .ok (.idiv, 1) := by decide +kernel
theorem d_Mo_check_40 : decode prog_13_method_124_code 40 = .ok (.aload_n 0, 1) := by decide +kernel
theorem d_Mo_check_41 : decode prog_13_method_124_code 41 = .ok (.iconst 0, 1) := by decide +kernel
theorem d_Mo_check_42 : decode prog_13_method_124_code 42 = .ok (.putfield 205, 3) := by decide +kernel
theorem d_Mo_check_45 : decode prog_13_method_124_code 45 = .ok (.aload_n 0, 1) := by decide +kernel
theorem d_Mo_check_46 : decode prog_13_method_124_code 46 = .ok (.invokevirtual 370, 3) := by decide +kernel
theorem d_Mo_check_49 : decode prog_13_method_124_code 49 = .ok (.iconst 0, 1) := by decide +kernel
theorem d_Mo_check_50 : decode prog_13_method_124_code 50 = .ok (.istore 4, 2) := by decide +kernel
theorem d_Mo_check_52 : decode prog_13_method_124_code 52 = .ok (.iload 4, 2) := by decide +kernel
theorem d_Mo_check_54 : decode prog_13_method_124_code 54 = .ok (.iload_n 3, 1) := by decide +kernel
theorem d_Mo_check_91 : decode prog_13_method_124_code 91 = .ok (.iconst (-1), 1) := by decide +kernel
theorem d_Mo_check_92 : decode prog_13_method_124_code 92 = .ok (.ireturn, 1) := by decide +kernel
theorem d_Mo_check_58 : decode prog_13_method_124_code 58 = .ok (.aload_n 0, 1) := by decide +kernel
theorem d_Mo_check_59 : decode prog_13_method_124_code 59 = .ok (.iload 4, 2) := by decide +kernel
theorem d_Mo_check_61 : decode prog_13_method_124_code 61 = .ok (.invokevirtual 545, 3) := by decide +kernel
theorem k_Mo_tapeNumber : MOk m_Mo_tapeNumber 1 ∧ IOk m_Mo_tapeNumber := ⟨⟨atG 2053 (by decide +kernel) rfl, atG 122 (by decide +kernel) rfl, ⟨by decide, by decide⟩, by decide +kernel, by decide⟩, atG 2052 (by decide +kernel) rfl, atG 109 (by decide +kernel) rfl⟩
theorem lk_Mo_545 : Cond.methodLink "ShadeTownModel" 545 ⟨"ShadeTownModel", "tapeNumber", "(I)I"⟩ ∈ tblG := atG 2050 (by decide +kernel) rfl
theorem d_Mo_check_64 : decode prog_13_method_124_code 64 = .ok (.aload_n 0, 1) := by decide +kernel
theorem d_Mo_check_65 : decode prog_13_method_124_code 65 = .ok (.iload_n 1, 1) := by decide +kernel
theorem d_Mo_check_66 : decode prog_13_method_124_code 66 = .ok (.bipush 12, 2) := by decide +kernel
theorem d_Mo_check_68 : decode prog_13_method_124_code 68 = .ok (.iload_n 2, 1) := by decide +kernel
theorem d_Mo_check_69 : decode prog_13_method_124_code 69 = .ok (.imul, 1) := by decide +kernel
theorem d_Mo_check_70 : decode prog_13_method_124_code 70 = .ok (.iload 4, 2) := by decide +kernel
theorem d_Mo_check_72 : decode prog_13_method_124_code 72 = .ok (.iadd, 1) := by decide +kernel
theorem d_Mo_check_73 : decode prog_13_method_124_code 73 = .ok (.invokevirtual 373, 3) := by decide +kernel
theorem d_Mo_check_76 : decode prog_13_method_124_code 76 = .ok (.invokestatic 376, 3) := by decide +kernel
theorem d_Mo_check_85 : decode prog_13_method_124_code 85 = .ok (.iinc 4 1, 3) := by decide +kernel
theorem d_Mo_check_88 : decode prog_13_method_124_code 88 = .ok (.goto (-36), 3) := by decide +kernel
theorem d_Mo_check_82 : decode prog_13_method_124_code 82 = .ok (.iload 4, 2) := by decide +kernel
theorem d_Mo_check_84 : decode prog_13_method_124_code 84 = .ok (.ireturn, 1) := by decide +kernel
theorem d_Mo_check_79 : decode prog_13_method_124_code 79 = .ok (.if_icmp .eq 6, 3) := by decide +kernel
theorem d_Mo_check_55 : decode prog_13_method_124_code 55 = .ok (.if_icmp .ge 36, 3) := by decide +kernel
theorem d_Mo_check_34 : decode prog_13_method_124_code 34 = .ok (.if_icmp .le 6, 3) := by decide +kernel
theorem d_Mo_check_24 : decode prog_13_method_124_code 24 = .ok (.ifCond .eq 13, 3) := by decide +kernel
theorem d_Mo_check_14 : decode prog_13_method_124_code 14 = .ok (.ifCond .eq 23, 3) := by decide +kernel
theorem d_Mo_check_4 : decode prog_13_method_124_code 4 = .ok (.ifCond .eq 33, 3) := by decide +kernel
def B_Mo_check_l52 (N : Nat) (a1 : Int32) (a2 : Int32) (a3 : Int32) (rec : Int32 → Mem → Option (Int32 × Mem)) (x4 : Int32) (σ : Mem) : Option (Int32 × Mem) :=
  if a3 ≤ x4 then
    (some ((-1), σ))
  else
    (bnd1 (f_Mo_tapeNumber N σ x4) fun r61 =>
    bnd1 (f_Mo_whoOn σ a1 ((12 * a2) + x4)) fun r73 =>
    bnd1 (f_Mo_bits N r73) fun r76 =>
    if r61 = r76 then
      (letv (x4 + 1) fun v85 =>
      rec v85 σ)
    else
      (some (x4, σ)))
def L_Mo_check_l52 (N : Nat) (a1 : Int32) (a2 : Int32) (a3 : Int32) : Nat → Int32 → Mem → Option (Int32 × Mem)
  | 0, _, _ => none
  | k + 1, x4, σ => B_Mo_check_l52 N a1 a2 a3 (L_Mo_check_l52 N a1 a2 a3 k) x4 σ
set_option maxHeartbeats 4000000 in
set_option maxRecDepth 20000 in
theorem cL_Mo_check_l52 (Z : ZX) {Y : YX} {post : Option Value → Mem → Prop} {N : Nat} {a1 : Int32} {a2 : Int32} {a3 : Int32} {Good : Int32 × Mem → Prop} (hR : ∀ (v : Int32) (σr : Mem), Good (v, σr) → post (some (.int v)) σr) : ∀ (k : Nat) (x4 : Int32) (σ : Mem) (res : Int32 × Mem), L_Mo_check_l52 N a1 a2 a3 k x4 σ = some res → Good res → V (mkB Z) Y m_Mo_check 6 (QP (mkB Z) Y nC 0 0 post) 0 0 nC σ 52 [(0, rf Z 65), (1, .int a1), (2, .int a2), (3, .int a3), (4, .int x4)] [] := by
  intro k
  induction k with
  | zero => intro x4 σ res h; cases h
  | succ k ih =>
    intro x4 σ res h hg
    replace h : B_Mo_check_l52 N a1 a2 a3 (L_Mo_check_l52 N a1 a2 a3 k) x4 σ = some res := h
    unfold B_Mo_check_l52 at h
    refine V.iload d_Mo_check_52 4 rfl ?_
    refine V.iload_n d_Mo_check_54 rfl 3 rfl ?_
    refine V.icmp_ge (tgt := 91) d_Mo_check_55 (by decide) (fun hc55 => ?_) (fun hc55 => ?_)
    · replace h := ite_t hc55 h
      refine V.iconst (v := (-1)) d_Mo_check_91 (by decide) ?_
      cases h
      exact V.iret rfl d_Mo_check_92 (hR _ _ hg)
    · replace h := ite_f hc55 h
      refine V.aload_n d_Mo_check_58 rfl 0 rfl ?_
      refine V.iload d_Mo_check_59 4 rfl ?_
      obtain ⟨r61, h1, h⟩ := bnd1_e h
      refine V.vI (as := [.int x4]) (st := []) (c_Mo_tapeNumber Z h1) k_Mo_tapeNumber lk_Mo_545 (by decide) rfl (by decide) ly_65 ok_Mo.1 rfl (Nat.le_of_ble_eq_true rfl) d_Mo_check_61 ?_
      refine V.aload_n d_Mo_check_64 rfl 0 rfl ?_
      refine V.iload_n d_Mo_check_65 rfl 1 rfl ?_
      refine V.bipush (v := 12) d_Mo_check_66 (by decide) ?_
      refine V.iload_n d_Mo_check_68 rfl 2 rfl ?_
      refine V.imul d_Mo_check_69 ?_
      refine V.iload d_Mo_check_70 4 rfl ?_
      refine V.iadd d_Mo_check_72 ?_
      obtain ⟨r73, h1, h⟩ := bnd1_e h
      refine V.vI (as := [.int a1, .int ((12 * a2) + x4)]) (st := [.int r61]) (c_Mo_whoOn Z h1) k_Mo_whoOn lk_Mo_373 (by decide) rfl (by decide) ly_65 ok_Mo.1 rfl (Nat.le_of_ble_eq_true rfl) d_Mo_check_73 ?_
      obtain ⟨r76, h1, h⟩ := bnd1_e h
      refine V.sI (as := [.int r73]) (st := [.int r61]) (c_Mo_bits Z h1) k_Mo_bits lk_Mo_376 (by decide) rfl rfl (Nat.le_of_ble_eq_true rfl) d_Mo_check_76 ?_
      refine V.icmp_eq (tgt := 85) d_Mo_check_79 (by decide) (fun hc79 => ?_) (fun hc79 => ?_)
      · replace h := ite_t hc79 h
        obtain ⟨v85, e_v85, h⟩ := letv_e h
        refine V.iinc (v := v85) (lv' := [(4, .int v85), (0, rf Z 65), (1, .int a1), (2, .int a2), (3, .int a3)]) d_Mo_check_85 4 rfl (by rw [e_v85]; rfl) (by decide) rfl ?_
        refine V.goto (tgt := 52) d_Mo_check_88 (by decide) ?_
        exact V.pick [1, 2, 3, 4, 0] rfl (ih _ _ _ h hg)
      · replace h := ite_f hc79 h
        refine V.iload d_Mo_check_82 4 rfl ?_
        cases h
        exact V.iret rfl d_Mo_check_84 (hR _ _ hg)
def f_Mo_check (N : Nat) (σ : Mem) (a1 : Int32) (a2 : Int32) (a3 : Int32) : Option (Int32 × Mem) :=
  bnd1 (f_Mo_isHour a1) fun r1 =>
  if r1 = 0 then
    (some ((-2), σ))
  else
    (bnd1 (f_Mo_in a2 0 11) fun r11 =>
    if r11 = 0 then
      (some ((-2), σ))
    else
      (bnd1 (f_Mo_in a3 0 12) fun r21 =>
      if r21 = 0 then
        (some ((-2), σ))
      else
        (if a3 ≤ ((mI σ 65 11) / 4) then
          (letv (sI σ 65 11 0) fun σ42 =>
          bnd1 (f_Mo_laysDay N σ42) fun σ46 =>
          L_Mo_check_l52 N a1 a2 a3 N 0 σ46)
        else
          (some ((-2), σ)))))
set_option maxHeartbeats 4000000 in
set_option maxRecDepth 20000 in
theorem c_Mo_check (Z : ZX) {N : Nat} {σ : Mem} {a1 : Int32} {a2 : Int32} {a3 : Int32} {r : Int32} {σ' : Mem} (h : f_Mo_check N σ a1 a2 a3 = some (r, σ')) : CI Z 6 m_Mo_check [rf Z 65, .int a1, .int a2, .int a3] σ r σ' := by
  refine Ct.of (by decide +kernel) (Nat.le_of_ble_eq_true rfl) (fun Y => ?_)
  show V (mkB Z) Y m_Mo_check 6 (QP (mkB Z) Y nC 0 0 (fun v t => v = some (.int r) ∧ t = σ')) 0 0 nC σ 0 [(0, rf Z 65), (1, .int a1), (2, .int a2), (3, .int a3)] []
  unfold f_Mo_check at h
  refine V.iload_n d_Mo_check_0 rfl 1 rfl ?_
  obtain ⟨r1, h1, h⟩ := bnd1_e h
  refine V.sI (as := [.int a1]) (st := []) (c_Mo_isHour Z h1) k_Mo_isHour lk_Mo_321 (by decide) rfl rfl (Nat.le_of_ble_eq_true rfl) d_Mo_check_1 ?_
  refine V.if_eq (tgt := 37) d_Mo_check_4 (by decide) (fun hc4 => ?_) (fun hc4 => ?_)
  · replace h := ite_t hc4 h
    refine V.bipush (v := (-2)) d_Mo_check_37 (by decide) ?_
    cases h
    exact V.iret rfl d_Mo_check_39 ⟨rfl, rfl⟩
  · replace h := ite_f hc4 h
    refine V.iload_n d_Mo_check_7 rfl 2 rfl ?_
    refine V.iconst (v := 0) d_Mo_check_8 (by decide) ?_
    refine V.bipush (v := 11) d_Mo_check_9 (by decide) ?_
    obtain ⟨r11, h1, h⟩ := bnd1_e h
    refine V.sI (as := [.int a2, .int 0, .int 11]) (st := []) (c_Mo_in Z h1) k_Mo_in lk_Mo_188 (by decide) rfl rfl (Nat.le_of_ble_eq_true rfl) d_Mo_check_11 ?_
    refine V.if_eq (tgt := 37) d_Mo_check_14 (by decide) (fun hc14 => ?_) (fun hc14 => ?_)
    · replace h := ite_t hc14 h
      refine V.bipush (v := (-2)) d_Mo_check_37 (by decide) ?_
      cases h
      exact V.iret rfl d_Mo_check_39 ⟨rfl, rfl⟩
    · replace h := ite_f hc14 h
      refine V.iload_n d_Mo_check_17 rfl 3 rfl ?_
      refine V.iconst (v := 0) d_Mo_check_18 (by decide) ?_
      refine V.bipush (v := 12) d_Mo_check_19 (by decide) ?_
      obtain ⟨r21, h1, h⟩ := bnd1_e h
      refine V.sI (as := [.int a3, .int 0, .int 12]) (st := []) (c_Mo_in Z h1) k_Mo_in lk_Mo_188 (by decide) rfl rfl (Nat.le_of_ble_eq_true rfl) d_Mo_check_21 ?_
      refine V.if_eq (tgt := 37) d_Mo_check_24 (by decide) (fun hc24 => ?_) (fun hc24 => ?_)
      · replace h := ite_t hc24 h
        refine V.bipush (v := (-2)) d_Mo_check_37 (by decide) ?_
        cases h
        exact V.iret rfl d_Mo_check_39 ⟨rfl, rfl⟩
      · replace h := ite_f hc24 h
        refine V.iload_n d_Mo_check_27 rfl 3 rfl ?_
        refine V.aload_n d_Mo_check_28 rfl 0 rfl ?_
        refine V.getI ok_Mo fl_Mo_205 (by decide) (by decide) ly_65 rfl d_Mo_check_29 ?_
        refine V.iconst (v := 4) d_Mo_check_32 (by decide) ?_
        refine V.idiv d_Mo_check_33 (by decide) ?_
        refine V.icmp_le (tgt := 40) d_Mo_check_34 (by decide) (fun hc34 => ?_) (fun hc34 => ?_)
        · replace h := ite_t hc34 h
          refine V.aload_n d_Mo_check_40 rfl 0 rfl ?_
          refine V.iconst (v := 0) d_Mo_check_41 (by decide) ?_
          obtain ⟨σ42, e_σ42, h⟩ := letv_e h
          refine V.putI ok_Mo fl_Mo_205 (by decide) (by decide) ly_65 rfl rfl rfl rfl d_Mo_check_42 (V.mem e_σ42 ?_)
          refine V.aload_n d_Mo_check_45 rfl 0 rfl ?_
          obtain ⟨σ46, h1, h⟩ := bnd1_e h
          refine V.vN (as := []) (st := []) (c_Mo_laysDay Z h1) k_Mo_laysDay lk_Mo_370 (by decide) rfl (by decide) ly_65 ok_Mo.1 rfl (Nat.le_of_ble_eq_true rfl) d_Mo_check_46 ?_
          refine V.iconst (v := 0) d_Mo_check_49 (by decide) ?_
          refine V.istore (lv' := [(4, .int 0), (0, rf Z 65), (1, .int a1), (2, .int a2), (3, .int a3)]) d_Mo_check_50 (by decide) rfl ?_
          refine V.pick [1, 2, 3, 4, 0] rfl (cL_Mo_check_l52 Z (Good := fun z => z = _) (fun r52v r52m he => ?_) N _ _ _ h rfl)
          · cases he
            exact ⟨rfl, rfl⟩
        · replace h := ite_f hc34 h
          refine V.bipush (v := (-2)) d_Mo_check_37 (by decide) ?_
          cases h
          exact V.iret rfl d_Mo_check_39 ⟨rfl, rfl⟩
abbrev m_Mo_count : MI := (⟨"ShadeTownModel", "count", "(I)I"⟩, prog_13_method_125_code, 2, (Option.some Jvm.ClassFile.FieldType.int))
theorem d_Mo_count_0 : decode prog_13_method_125_code 0 = .ok (.iload_n 1, 1) := by decide +kernel
theorem d_Mo_count_52 : decode prog_13_method_125_code 52 = .ok (.aload_n 0, 1) := by decide +kernel
theorem d_Mo_count_53 : decode prog_13_method_125_code 53 = .ok (.getfield 167, 3) := by decide +kernel
theorem d_Mo_count_56 : decode prog_13_method_125_code 56 = .ok (.ireturn, 1) := by decide +kernel
theorem d_Mo_count_57 : decode prog_13_method_125_code 57 = .ok (.aload_n 0, 1) := by decide +kernel
theorem d_Mo_count_58 : decode prog_13_method_125_code 58 = .ok (.getfield 174, 3) := by decide +kernel
theorem d_Mo_count_61 : decode prog_13_method_125_code 61 = .ok (.ireturn, 1) := by decide +kernel
theorem d_Mo_count_62 : decode prog_13_method_125_code 62 = .ok (.aload_n 0, 1) := by decide +kernel
theorem d_Mo_count_63 : decode prog_13_method_125_code 63 = .ok (.getfield 304, 3) := by decide +kernel
theorem d_Mo_count_66 : decode prog_13_method_125_code 66 = .ok (.ireturn, 1) := by decide +kernel
theorem d_Mo_count_67 : decode prog_13_method_125_code 67 = .ok (.aload_n 0, 1) := by decide +kernel
theorem d_Mo_count_68 : decode prog_13_method_125_code 68 = .ok (.getfield 205, 3) := by decide +kernel
theorem d_Mo_count_71 : decode prog_13_method_125_code 71 = .ok (.ireturn, 1) := by decide +kernel
theorem d_Mo_count_72 : decode prog_13_method_125_code 72 = .ok (.aload_n 0, 1) := by decide +kernel
theorem d_Mo_count_73 : decode prog_13_method_125_code 73 = .ok (.getfield 202, 3) := by decide +kernel
theorem d_Mo_count_76 : decode prog_13_method_125_code 76 = .ok (.ireturn, 1) := by decide +kernel
theorem d_Mo_count_77 : decode prog_13_method_125_code 77 = .ok (.aload_n 0, 1) := by decide +kernel
theorem d_Mo_count_78 : decode prog_13_method_125_code 78 = .ok (.getfield 163, 3) := by decide +kernel
theorem d_Mo_count_81 : decode prog_13_method_125_code 81 = .ok (.ireturn, 1) := by decide +kernel
theorem d_Mo_count_82 : decode prog_13_method_125_code 82 = .ok (.aload_n 0, 1) := by decide +kernel
theorem d_Mo_count_83 : decode prog_13_method_125_code 83 = .ok (.getfield 444, 3) := by decide +kernel
theorem d_Mo_count_86 : decode prog_13_method_125_code 86 = .ok (.invokestatic 376, 3) := by decide +kernel
theorem d_Mo_count_89 : decode prog_13_method_125_code 89 = .ok (.ireturn, 1) := by decide +kernel
theorem d_Mo_count_90 : decode prog_13_method_125_code 90 = .ok (.aload_n 0, 1) := by decide +kernel
theorem d_Mo_count_91 : decode prog_13_method_125_code 91 = .ok (.getfield 477, 3) := by decide +kernel
theorem d_Mo_count_94 : decode prog_13_method_125_code 94 = .ok (.ireturn, 1) := by decide +kernel
theorem d_Mo_count_95 : decode prog_13_method_125_code 95 = .ok (.aload_n 0, 1) := by decide +kernel
theorem d_Mo_count_96 : decode prog_13_method_125_code 96 = .ok (.invokevirtual 364, 3) := by decide +kernel
theorem d_Mo_count_99 : decode prog_13_method_125_code 99 = .ok (.aload_n 0, 1) := by decide +kernel
theorem d_Mo_count_100 : decode prog_13_method_125_code 100 = .ok (.getfield 355, 3) := by decide +kernel
theorem d_Mo_count_103 : decode prog_13_method_125_code 103 = .ok (.ireturn, 1) := by decide +kernel
theorem d_Mo_count_104 : decode prog_13_method_125_code 104 = .ok (.iconst (-1), 1) := by decide +kernel
theorem d_Mo_count_105 : decode prog_13_method_125_code 105 = .ok (.ireturn, 1) := by decide +kernel
theorem d_Mo_count_1 : decode prog_13_method_125_code 1 = .ok (.tableswitch 103 0 8 #[51, 56, 61, 66, 71, 76, 81, 89, 94], 51) := by decide +kernel
def f_Mo_count (N : Nat) (σ : Mem) (a1 : Int32) : Option (Int32 × Mem) :=
  if a1 = 0 then
    (some (mI σ 65 0, σ))
  else
  if a1 = 1 then
    (some (mI σ 65 1, σ))
  else
  if a1 = 2 then
    (some (mI σ 65 20, σ))
  else
  if a1 = 3 then
    (some (mI σ 65 11, σ))
  else
  if a1 = 4 then
    (some (mI σ 65 2, σ))
  else
  if a1 = 5 then
    (some (mI σ 65 3, σ))
  else
  if a1 = 6 then
    (bnd1 (f_Mo_bits N (mI σ 65 47)) fun r86 =>
    some (r86, σ))
  else
  if a1 = 7 then
    (some (mI σ 65 55, σ))
  else
  if a1 = 8 then
    (bnd1 (f_Mo_laysFree N σ) fun σ96 =>
    some (mI σ96 65 37, σ96))
  else
  (some ((-1), σ))
set_option maxHeartbeats 4000000 in
set_option maxRecDepth 20000 in
theorem c_Mo_count (Z : ZX) {N : Nat} {σ : Mem} {a1 : Int32} {r : Int32} {σ' : Mem} (h : f_Mo_count N σ a1 = some (r, σ')) : CI Z 4 m_Mo_count [rf Z 65, .int a1] σ r σ' := by
  refine Ct.of (by decide +kernel) (Nat.le_of_ble_eq_true rfl) (fun Y => ?_)
  show V (mkB Z) Y m_Mo_count 4 (QP (mkB Z) Y nC 0 0 (fun v t => v = some (.int r) ∧ t = σ')) 0 0 nC σ 0 [(0, rf Z 65), (1, .int a1)] []
  unfold f_Mo_count at h
  refine V.iload_n d_Mo_count_0 rfl 1 rfl ?_
  by_cases hs1_0 : a1 = 0
  · replace h := ite_t hs1_0 h
    refine V.tin (c := 0) (tgt := 52) d_Mo_count_1 hs1_0 (by decide) (by decide) rfl (by decide) ?_
    refine V.aload_n d_Mo_count_52 rfl 0 rfl ?_
    refine V.getI ok_Mo fl_Mo_167 (by decide) (by decide) ly_65 rfl d_Mo_count_53 ?_
    cases h
    exact V.iret rfl d_Mo_count_56 ⟨rfl, rfl⟩
  · replace h := ite_f hs1_0 h
    by_cases hs1_1 : a1 = 1
    · replace h := ite_t hs1_1 h
      refine V.tin (c := 1) (tgt := 57) d_Mo_count_1 hs1_1 (by decide) (by decide) rfl (by decide) ?_
      refine V.aload_n d_Mo_count_57 rfl 0 rfl ?_
      refine V.getI ok_Mo fl_Mo_174 (by decide) (by decide) ly_65 rfl d_Mo_count_58 ?_
      cases h
      exact V.iret rfl d_Mo_count_61 ⟨rfl, rfl⟩
    · replace h := ite_f hs1_1 h
      by_cases hs1_2 : a1 = 2
      · replace h := ite_t hs1_2 h
        refine V.tin (c := 2) (tgt := 62) d_Mo_count_1 hs1_2 (by decide) (by decide) rfl (by decide) ?_
        refine V.aload_n d_Mo_count_62 rfl 0 rfl ?_
        refine V.getI ok_Mo fl_Mo_304 (by decide) (by decide) ly_65 rfl d_Mo_count_63 ?_
        cases h
        exact V.iret rfl d_Mo_count_66 ⟨rfl, rfl⟩
      · replace h := ite_f hs1_2 h
        by_cases hs1_3 : a1 = 3
        · replace h := ite_t hs1_3 h
          refine V.tin (c := 3) (tgt := 67) d_Mo_count_1 hs1_3 (by decide) (by decide) rfl (by decide) ?_
          refine V.aload_n d_Mo_count_67 rfl 0 rfl ?_
          refine V.getI ok_Mo fl_Mo_205 (by decide) (by decide) ly_65 rfl d_Mo_count_68 ?_
          cases h
          exact V.iret rfl d_Mo_count_71 ⟨rfl, rfl⟩
        · replace h := ite_f hs1_3 h
          by_cases hs1_4 : a1 = 4
          · replace h := ite_t hs1_4 h
            refine V.tin (c := 4) (tgt := 72) d_Mo_count_1 hs1_4 (by decide) (by decide) rfl (by decide) ?_
            refine V.aload_n d_Mo_count_72 rfl 0 rfl ?_
            refine V.getI ok_Mo fl_Mo_202 (by decide) (by decide) ly_65 rfl d_Mo_count_73 ?_
            cases h
            exact V.iret rfl d_Mo_count_76 ⟨rfl, rfl⟩
          · replace h := ite_f hs1_4 h
            by_cases hs1_5 : a1 = 5
            · replace h := ite_t hs1_5 h
              refine V.tin (c := 5) (tgt := 77) d_Mo_count_1 hs1_5 (by decide) (by decide) rfl (by decide) ?_
              refine V.aload_n d_Mo_count_77 rfl 0 rfl ?_
              refine V.getI ok_Mo fl_Mo_163 (by decide) (by decide) ly_65 rfl d_Mo_count_78 ?_
              cases h
              exact V.iret rfl d_Mo_count_81 ⟨rfl, rfl⟩
            · replace h := ite_f hs1_5 h
              by_cases hs1_6 : a1 = 6
              · replace h := ite_t hs1_6 h
                refine V.tin (c := 6) (tgt := 82) d_Mo_count_1 hs1_6 (by decide) (by decide) rfl (by decide) ?_
                refine V.aload_n d_Mo_count_82 rfl 0 rfl ?_
                refine V.getI ok_Mo fl_Mo_444 (by decide) (by decide) ly_65 rfl d_Mo_count_83 ?_
                obtain ⟨r86, h1, h⟩ := bnd1_e h
                refine V.sI (as := [.int (mI σ 65 47)]) (st := []) (c_Mo_bits Z h1) k_Mo_bits lk_Mo_376 (by decide) rfl rfl (Nat.le_of_ble_eq_true rfl) d_Mo_count_86 ?_
                cases h
                exact V.iret rfl d_Mo_count_89 ⟨rfl, rfl⟩
              · replace h := ite_f hs1_6 h
                by_cases hs1_7 : a1 = 7
                · replace h := ite_t hs1_7 h
                  refine V.tin (c := 7) (tgt := 90) d_Mo_count_1 hs1_7 (by decide) (by decide) rfl (by decide) ?_
                  refine V.aload_n d_Mo_count_90 rfl 0 rfl ?_
                  refine V.getI ok_Mo fl_Mo_477 (by decide) (by decide) ly_65 rfl d_Mo_count_91 ?_
                  cases h
                  exact V.iret rfl d_Mo_count_94 ⟨rfl, rfl⟩
                · replace h := ite_f hs1_7 h
                  by_cases hs1_8 : a1 = 8
                  · replace h := ite_t hs1_8 h
                    refine V.tin (c := 8) (tgt := 95) d_Mo_count_1 hs1_8 (by decide) (by decide) rfl (by decide) ?_
                    refine V.aload_n d_Mo_count_95 rfl 0 rfl ?_
                    obtain ⟨σ96, h1, h⟩ := bnd1_e h
                    refine V.vN (as := []) (st := []) (c_Mo_laysFree Z h1) k_Mo_laysFree lk_Mo_364 (by decide) rfl (by decide) ly_65 ok_Mo.1 rfl (Nat.le_of_ble_eq_true rfl) d_Mo_count_96 ?_
                    refine V.aload_n d_Mo_count_99 rfl 0 rfl ?_
                    refine V.getI ok_Mo fl_Mo_355 (by decide) (by decide) ly_65 rfl d_Mo_count_100 ?_
                    cases h
                    exact V.iret rfl d_Mo_count_103 ⟨rfl, rfl⟩
                  · replace h := ite_f hs1_8 h
                    refine V.tdef (tgt := 104) d_Mo_count_1 (fun i h1 h2 => ?_) (by decide) ?_
                    · rcases (show i = 0 ∨ i = 1 ∨ i = 2 ∨ i = 3 ∨ i = 4 ∨ i = 5 ∨ i = 6 ∨ i = 7 ∨ i = 8 by omega) with rfl | rfl | rfl | rfl | rfl | rfl | rfl | rfl | rfl
                      · exact Or.inl (fun e => hs1_0 (e.trans (by decide)))
                      · exact Or.inl (fun e => hs1_1 (e.trans (by decide)))
                      · exact Or.inl (fun e => hs1_2 (e.trans (by decide)))
                      · exact Or.inl (fun e => hs1_3 (e.trans (by decide)))
                      · exact Or.inl (fun e => hs1_4 (e.trans (by decide)))
                      · exact Or.inl (fun e => hs1_5 (e.trans (by decide)))
                      · exact Or.inl (fun e => hs1_6 (e.trans (by decide)))
                      · exact Or.inl (fun e => hs1_7 (e.trans (by decide)))
                      · exact Or.inl (fun e => hs1_8 (e.trans (by decide)))
                    · refine V.iconst (v := (-1)) d_Mo_count_104 (by decide) ?_
                      cases h
                      exact V.iret rfl d_Mo_count_105 ⟨rfl, rfl⟩
