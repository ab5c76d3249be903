abbrev m_Mo_castsNear : MI := (⟨"ShadeTownModel", "castsNear", "(II)V"⟩, prog_13_method_58_code, 6, (Option.none : Option Jvm.ClassFile.FieldType))
theorem d_Mo_castsNear_0 : decode prog_13_method_58_code 0 = .ok (.aload_n 0, 1) := by decide +kernel
theorem d_Mo_castsNear_1 : decode prog_13_method_58_code 1 = .ok (.getfield 13, 3) := by decide +kernel
theorem d_Mo_castsNear_4 : decode prog_13_method_58_code 4 = .ok (.iload_n 2, 1) := by decide +kernel
theorem d_Mo_castsNear_5 : decode prog_13_method_58_code 5 = .ok (.iaload, 1) := by decide +kernel
theorem d_Mo_castsNear_6 : decode prog_13_method_58_code 6 = .ok (.bipush 12, 2) := by decide +kernel
theorem d_Mo_castsNear_8 : decode prog_13_method_58_code 8 = .ok (.irem, 1) := by decide +kernel
theorem d_Mo_castsNear_9 : decode prog_13_method_58_code 9 = .ok (.istore_n 3, 1) := by decide +kernel
theorem d_Mo_castsNear_10 : decode prog_13_method_58_code 10 = .ok (.aload_n 0, 1) := by decide +kernel
theorem d_Mo_castsNear_11 : decode prog_13_method_58_code 11 = .ok (.getfield 13, 3) := by decide +kernel
theorem d_Mo_castsNear_14 : decode prog_13_method_58_code 14 = .ok (.iload_n 2, 1) := by decide +kernel
theorem d_Mo_castsNear_15 : decode prog_13_method_58_code 15 = .ok (.iaload, 1) := by decide +kernel
theorem d_Mo_castsNear_16 : decode prog_13_method_58_code 16 = .ok (.bipush 12, 2) := by decide +kernel
theorem d_Mo_castsNear_18 : decode prog_13_method_58_code 18 = .ok (.idiv, 1) := by decide +kernel
theorem d_Mo_castsNear_19 : decode prog_13_method_58_code 19 = .ok (.istore 4, 2) := by decide +kernel
theorem d_Mo_castsNear_21 : decode prog_13_method_58_code 21 = .ok (.iconst 0, 1) := by decide +kernel
theorem d_Mo_castsNear_22 : decode prog_13_method_58_code 22 = .ok (.istore 5, 2) := by decide +kernel
theorem d_Mo_castsNear_24 : decode prog_13_method_58_code 24 = .ok (.iload 5, 2) := by decide +kernel
theorem d_Mo_castsNear_26 : decode prog_13_method_58_code 26 = .ok (.aload_n 0, 1) := by decide +kernel
theorem d_Mo_castsNear_27 : decode prog_13_method_58_code 27 = .ok (.getfield 16, 3) := by decide +kernel
theorem d_Mo_castsNear_30 : decode prog_13_method_58_code 30 = .ok (.iload_n 2, 1) := by decide +kernel
theorem d_Mo_castsNear_31 : decode prog_13_method_58_code 31 = .ok (.iaload, 1) := by decide +kernel
theorem d_Mo_castsNear_76 : decode prog_13_method_58_code 76 = .ok (.return_, 1) := by decide +kernel
theorem d_Mo_castsNear_35 : decode prog_13_method_58_code 35 = .ok (.aload_n 0, 1) := by decide +kernel
theorem d_Mo_castsNear_36 : decode prog_13_method_58_code 36 = .ok (.iload_n 1, 1) := by decide +kernel
theorem d_Mo_castsNear_37 : decode prog_13_method_58_code 37 = .ok (.iload_n 3, 1) := by decide +kernel
theorem d_Mo_castsNear_38 : decode prog_13_method_58_code 38 = .ok (.iload 5, 2) := by decide +kernel
theorem d_Mo_castsNear_40 : decode prog_13_method_58_code 40 = .ok (.aload_n 0, 1) := by decide +kernel
theorem d_Mo_castsNear_41 : decode prog_13_method_58_code 41 = .ok (.getfield 19, 3) := by decide +kernel
theorem d_Mo_castsNear_44 : decode prog_13_method_58_code 44 = .ok (.iload_n 2, 1) := by decide +kernel
theorem d_Mo_castsNear_45 : decode prog_13_method_58_code 45 = .ok (.iaload, 1) := by decide +kernel
theorem d_Mo_castsNear_46 : decode prog_13_method_58_code 46 = .ok (.invokestatic 349, 3) := by decide +kernel
theorem k_Mo_acrossOf : MOk m_Mo_acrossOf 1 ∧ Cond.static m_Mo_acrossOf.1 ∈ tblG := ⟨⟨atG 1777 (by decide +kernel) rfl, atG 122 (by decide +kernel) rfl, ⟨by decide, by decide⟩, by decide +kernel, by decide⟩, atG 1776 (by decide +kernel) rfl⟩
theorem lk_Mo_349 : Cond.methodLink "ShadeTownModel" 349 ⟨"ShadeTownModel", "acrossOf", "(I)I"⟩ ∈ tblG := atG 1775 (by decide +kernel) rfl
theorem d_Mo_castsNear_49 : decode prog_13_method_58_code 49 = .ok (.imul, 1) := by decide +kernel
theorem d_Mo_castsNear_50 : decode prog_13_method_58_code 50 = .ok (.iadd, 1) := by decide +kernel
theorem d_Mo_castsNear_51 : decode prog_13_method_58_code 51 = .ok (.iload 4, 2) := by decide +kernel
theorem d_Mo_castsNear_53 : decode prog_13_method_58_code 53 = .ok (.iload 5, 2) := by decide +kernel
theorem d_Mo_castsNear_55 : decode prog_13_method_58_code 55 = .ok (.aload_n 0, 1) := by decide +kernel
theorem d_Mo_castsNear_56 : decode prog_13_method_58_code 56 = .ok (.getfield 19, 3) := by decide +kernel
theorem d_Mo_castsNear_59 : decode prog_13_method_58_code 59 = .ok (.iload_n 2, 1) := by decide +kernel
theorem d_Mo_castsNear_60 : decode prog_13_method_58_code 60 = .ok (.iaload, 1) := by decide +kernel
theorem d_Mo_castsNear_61 : decode prog_13_method_58_code 61 = .ok (.invokestatic 352, 3) := by decide +kernel
theorem k_Mo_upOf : MOk m_Mo_upOf 1 ∧ Cond.static m_Mo_upOf.1 ∈ tblG := ⟨⟨atG 1780 (by decide +kernel) rfl, atG 122 (by decide +kernel) rfl, ⟨by decide, by decide⟩, by decide +kernel, by decide⟩, atG 1779 (by decide +kernel) rfl⟩
theorem lk_Mo_352 : Cond.methodLink "ShadeTownModel" 352 ⟨"ShadeTownModel", "upOf", "(I)I"⟩ ∈ tblG := atG 1778 (by decide +kernel) rfl
theorem d_Mo_castsNear_64 : decode prog_13_method_58_code 64 = .ok (.imul, 1) := by decide +kernel
theorem d_Mo_castsNear_65 : decode prog_13_method_58_code 65 = .ok (.iadd, 1) := by decide +kernel
theorem d_Mo_castsNear_66 : decode prog_13_method_58_code 66 = .ok (.iload_n 2, 1) := by decide +kernel
theorem d_Mo_castsNear_67 : decode prog_13_method_58_code 67 = .ok (.invokevirtual 345, 3) := by decide +kernel
theorem d_Mo_castsNear_70 : decode prog_13_method_58_code 70 = .ok (.iinc 5 1, 3) := by decide +kernel
theorem d_Mo_castsNear_73 : decode prog_13_method_58_code 73 = .ok (.goto (-49), 3) := by decide +kernel
theorem d_Mo_castsNear_32 : decode prog_13_method_58_code 32 = .ok (.if_icmp .ge 44, 3) := by decide +kernel
def B_Mo_castsNear_l24 (N : Nat) (a1 : Int32) (a2 : Int32) (a3 : Int32) (a4 : Int32) (rec : Int32 → Mem → Option (Mem)) (x5 : Int32) (σ : Mem) : Option (Mem) :=
  grd (inb a2 17) <|
  if (mI σ 68 (a2.toNatClampNeg)) ≤ x5 then
    (some σ)
  else
    (grd (inb a2 17) <|
    bnd1 (f_Mo_acrossOf (mI σ 69 (a2.toNatClampNeg))) fun r46 =>
    grd (inb a2 17) <|
    bnd1 (f_Mo_upOf (mI σ 69 (a2.toNatClampNeg))) fun r61 =>
    bnd1 (f_Mo_casts σ a1 (a3 + (x5 * r46)) (a4 + (x5 * r61)) a2) fun σ67 =>
    letv (x5 + 1) fun v70 =>
    rec v70 σ67)
def L_Mo_castsNear_l24 (N : Nat) (a1 : Int32) (a2 : Int32) (a3 : Int32) (a4 : Int32) : Nat → Int32 → Mem → Option (Mem)
  | 0, _, _ => none
  | k + 1, x5, σ => B_Mo_castsNear_l24 N a1 a2 a3 a4 (L_Mo_castsNear_l24 N a1 a2 a3 a4 k) x5 σ
set_option maxHeartbeats 4000000 in
set_option maxRecDepth 20000 in
theorem cL_Mo_castsNear_l24 (Z : ZX) {Y : YX} {post : Option Value → Mem → Prop} {N : Nat} {a1 : Int32} {a2 : Int32} {a3 : Int32} {a4 : Int32} {Good : Mem → Prop} (hR : ∀ (σr : Mem), Good σr → post none σr) : ∀ (k : Nat) (x5 : Int32) (σ : Mem) (res : Mem), L_Mo_castsNear_l24 N a1 a2 a3 a4 k x5 σ = some res → Good res → V (mkB Z) Y m_Mo_castsNear 2 (QP (mkB Z) Y nC 0 0 post) 0 0 nC σ 24 [(0, rf Z 65), (1, .int a1), (2, .int a2), (3, .int a3), (4, .int a4), (5, .int x5)] [] := by
  intro k
  induction k with
  | zero => intro x5 σ res h; cases h
  | succ k ih =>
    intro x5 σ res h hg
    replace h : B_Mo_castsNear_l24 N a1 a2 a3 a4 (L_Mo_castsNear_l24 N a1 a2 a3 a4 k) x5 σ = some res := h
    unfold B_Mo_castsNear_l24 at h
    refine V.iload d_Mo_castsNear_24 5 rfl ?_
    refine V.aload_n d_Mo_castsNear_26 rfl 0 rfl ?_
    refine V.getR (r := 68) ok_Mo fl_Mo_16 (by decide) (by decide) ly_65 rfl d_Mo_castsNear_27 ?_
    refine V.iload_n d_Mo_castsNear_30 rfl 2 rfl ?_
    obtain ⟨gq, h⟩ := grd_e h
    refine V.ra (by decide) ly_68 (inb_e gq) rfl d_Mo_castsNear_31 ?_
    refine V.icmp_ge (tgt := 76) d_Mo_castsNear_32 (by decide) (fun hc32 => ?_) (fun hc32 => ?_)
    · replace h := ite_t hc32 h
      cases h
      exact V.vret rfl d_Mo_castsNear_76 (hR _ hg)
    · replace h := ite_f hc32 h
      refine V.aload_n d_Mo_castsNear_35 rfl 0 rfl ?_
      refine V.iload_n d_Mo_castsNear_36 rfl 1 rfl ?_
      refine V.iload_n d_Mo_castsNear_37 rfl 3 rfl ?_
      refine V.iload d_Mo_castsNear_38 5 rfl ?_
      refine V.aload_n d_Mo_castsNear_40 rfl 0 rfl ?_
      refine V.getR (r := 69) ok_Mo fl_Mo_19 (by decide) (by decide) ly_65 rfl d_Mo_castsNear_41 ?_
      refine V.iload_n d_Mo_castsNear_44 rfl 2 rfl ?_
      obtain ⟨gq, h⟩ := grd_e h
      refine V.ra (by decide) ly_69 (inb_e gq) rfl d_Mo_castsNear_45 ?_
      obtain ⟨r46, h1, h⟩ := bnd1_e h
      refine V.sI (as := [.int (mI σ 69 (a2.toNatClampNeg))]) (st := [.int x5, .int a3, .int a1, rf Z 65]) (c_Mo_acrossOf Z h1) k_Mo_acrossOf lk_Mo_349 (by decide) rfl rfl (Nat.le_of_ble_eq_true rfl) d_Mo_castsNear_46 ?_
      refine V.imul d_Mo_castsNear_49 ?_
      refine V.iadd d_Mo_castsNear_50 ?_
      refine V.iload d_Mo_castsNear_51 4 rfl ?_
      refine V.iload d_Mo_castsNear_53 5 rfl ?_
      refine V.aload_n d_Mo_castsNear_55 rfl 0 rfl ?_
      refine V.getR (r := 69) ok_Mo fl_Mo_19 (by decide) (by decide) ly_65 rfl d_Mo_castsNear_56 ?_
      refine V.iload_n d_Mo_castsNear_59 rfl 2 rfl ?_
      obtain ⟨gq, h⟩ := grd_e h
      refine V.ra (by decide) ly_69 (inb_e gq) rfl d_Mo_castsNear_60 ?_
      obtain ⟨r61, h1, h⟩ := bnd1_e h
      refine V.sI (as := [.int (mI σ 69 (a2.toNatClampNeg))]) (st := [.int x5, .int a4, .int (a3 + (x5 * r46)), .int a1, rf Z 65]) (c_Mo_upOf Z h1) k_Mo_upOf lk_Mo_352 (by decide) rfl rfl (Nat.le_of_ble_eq_true rfl) d_Mo_castsNear_61 ?_
      refine V.imul d_Mo_castsNear_64 ?_
      refine V.iadd d_Mo_castsNear_65 ?_
      refine V.iload_n d_Mo_castsNear_66 rfl 2 rfl ?_
      obtain ⟨σ67, h1, h⟩ := bnd1_e h
      refine V.vN (as := [.int a1, .int (a3 + (x5 * r46)), .int (a4 + (x5 * r61)), .int a2]) (st := []) (c_Mo_casts Z h1) k_Mo_casts lk_Mo_345 (by decide) rfl (by decide) ly_65 ok_Mo.1 rfl (Nat.le_of_ble_eq_true rfl) d_Mo_castsNear_67 ?_
      obtain ⟨v70, e_v70, h⟩ := letv_e h
      refine V.iinc (v := v70) (lv' := [(5, .int v70), (0, rf Z 65), (1, .int a1), (2, .int a2), (3, .int a3), (4, .int a4)]) d_Mo_castsNear_70 5 rfl (by rw [e_v70]; rfl) (by decide) rfl ?_
      refine V.goto (tgt := 24) d_Mo_castsNear_73 (by decide) ?_
      exact V.pick [1, 2, 3, 4, 5, 0] rfl (ih _ _ _ h hg)
def f_Mo_castsNear (N : Nat) (σ : Mem) (a1 : Int32) (a2 : Int32) : Option (Mem) :=
  grd (inb a2 17) <|
  letv ((mI σ 67 (a2.toNatClampNeg)) - (mI σ 67 (a2.toNatClampNeg)) / 12 * 12) fun v9 =>
  grd (inb a2 17) <|
  letv ((mI σ 67 (a2.toNatClampNeg)) / 12) fun v19 =>
  L_Mo_castsNear_l24 N a1 a2 v9 v19 N 0 σ
set_option maxHeartbeats 4000000 in
set_option maxRecDepth 20000 in
theorem c_Mo_castsNear (Z : ZX) {N : Nat} {σ : Mem} {a1 : Int32} {a2 : Int32} {σ' : Mem} (h : f_Mo_castsNear N σ a1 a2 = some σ') : CN Z 2 m_Mo_castsNear [rf Z 65, .int a1, .int a2] σ σ' := by
  refine Ct.of (by decide +kernel) (Nat.le_of_ble_eq_true rfl) (fun Y => ?_)
  show V (mkB Z) Y m_Mo_castsNear 2 (QP (mkB Z) Y nC 0 0 (fun v t => v = none ∧ t = σ')) 0 0 nC σ 0 [(0, rf Z 65), (1, .int a1), (2, .int a2)] []
  unfold f_Mo_castsNear at h
  refine V.aload_n d_Mo_castsNear_0 rfl 0 rfl ?_
  refine V.getR (r := 67) ok_Mo fl_Mo_13 (by decide) (by decide) ly_65 rfl d_Mo_castsNear_1 ?_
  refine V.iload_n d_Mo_castsNear_4 rfl 2 rfl ?_
  obtain ⟨gq, h⟩ := grd_e h
  refine V.ra (by decide) ly_67 (inb_e gq) rfl d_Mo_castsNear_5 ?_
  refine V.bipush (v := 12) d_Mo_castsNear_6 (by decide) ?_
  refine V.irem d_Mo_castsNear_8 (by decide) ?_
  obtain ⟨v9, e_v9, h⟩ := letv_e h
  refine V.topI e_v9 ?_
  refine V.istore_n (lv' := [(3, .int v9), (0, rf Z 65), (1, .int a1), (2, .int a2)]) d_Mo_castsNear_9 rfl (by decide) rfl ?_
  refine V.aload_n d_Mo_castsNear_10 rfl 1 rfl ?_
  refine V.getR (r := 67) ok_Mo fl_Mo_13 (by decide) (by decide) ly_65 rfl d_Mo_castsNear_11 ?_
  refine V.iload_n d_Mo_castsNear_14 rfl 3 rfl ?_
  obtain ⟨gq, h⟩ := grd_e h
  refine V.ra (by decide) ly_67 (inb_e gq) rfl d_Mo_castsNear_15 ?_
  refine V.bipush (v := 12) d_Mo_castsNear_16 (by decide) ?_
  refine V.idiv d_Mo_castsNear_18 (by decide) ?_
  obtain ⟨v19, e_v19, h⟩ := letv_e h
  refine V.topI e_v19 ?_
  refine V.istore (lv' := [(4, .int v19), (3, .int v9), (0, rf Z 65), (1, .int a1), (2, .int a2)]) d_Mo_castsNear_19 (by decide) rfl ?_
  refine V.iconst (v := 0) d_Mo_castsNear_21 (by decide) ?_
  refine V.istore (lv' := [(5, .int 0), (4, .int v19), (3, .int v9), (0, rf Z 65), (1, .int a1), (2, .int a2)]) d_Mo_castsNear_22 (by decide) rfl ?_
  refine V.pick [3, 4, 5, 2, 1, 0] rfl (cL_Mo_castsNear_l24 Z (Good := fun z => z = _) (fun r24m he => ?_) N _ _ _ h rfl)
  · cases he
    exact ⟨rfl, rfl⟩
abbrev m_Mo_laysHour : MI := (⟨"ShadeTownModel", "laysHour", "(I)V"⟩, prog_13_method_60_code, 5, (Option.none : Option Jvm.ClassFile.FieldType))
theorem d_Mo_laysHour_0 : decode prog_13_method_60_code 0 = .ok (.iconst 0, 1) := by decide +kernel
theorem d_Mo_laysHour_1 : decode prog_13_method_60_code 1 = .ok (.istore_n 2, 1) := by decide +kernel
theorem d_Mo_laysHour_2 : decode prog_13_method_60_code 2 = .ok (.iload_n 2, 1) := by decide +kernel
theorem d_Mo_laysHour_3 : decode prog_13_method_60_code 3 = .ok (.sipush 144, 3) := by decide +kernel
theorem d_Mo_laysHour_9 : decode prog_13_method_60_code 9 = .ok (.aload_n 0, 1) := by decide +kernel
theorem d_Mo_laysHour_10 : decode prog_13_method_60_code 10 = .ok (.getfield 71, 3) := by decide +kernel
theorem d_Mo_laysHour_13 : decode prog_13_method_60_code 13 = .ok (.sipush 144, 3) := by decide +kernel
theorem d_Mo_laysHour_16 : decode prog_13_method_60_code 16 = .ok (.iload_n 1, 1) := by decide +kernel
theorem d_Mo_laysHour_17 : decode prog_13_method_60_code 17 = .ok (.imul, 1) := by decide +kernel
theorem d_Mo_laysHour_18 : decode prog_13_method_60_code 18 = .ok (.iload_n 2, 1) := by decide +kernel
theorem d_Mo_laysHour_19 : decode prog_13_method_60_code 19 = .ok (.iadd, 1) := by decide +kernel
theorem d_Mo_laysHour_20 : decode prog_13_method_60_code 20 = .ok (.iconst 0, 1) := by decide +kernel
theorem d_Mo_laysHour_21 : decode prog_13_method_60_code 21 = .ok (.iastore, 1) := by decide +kernel
theorem d_Mo_laysHour_22 : decode prog_13_method_60_code 22 = .ok (.iinc 2 1, 3) := by decide +kernel
theorem d_Mo_laysHour_25 : decode prog_13_method_60_code 25 = .ok (.goto (-23), 3) := by decide +kernel
theorem d_Mo_laysHour_6 : decode prog_13_method_60_code 6 = .ok (.if_icmp .ge 22, 3) := by decide +kernel
theorem d_Mo_laysHour_28 : decode prog_13_method_60_code 28 = .ok (.aload_n 0, 1) := by decide +kernel
theorem fl_Mo_74 : FL "ShadeTownModel" 74 T_Mo 35 := atG 1367 (by decide +kernel) rfl
theorem d_Mo_laysHour_29 : decode prog_13_method_60_code 29 = .ok (.getfield 74, 3) := by decide +kernel
theorem d_Mo_laysHour_32 : decode prog_13_method_60_code 32 = .ok (.iload_n 1, 1) := by decide +kernel
theorem d_Mo_laysHour_33 : decode prog_13_method_60_code 33 = .ok (.aload_n 0, 1) := by decide +kernel
theorem d_Mo_laysHour_34 : decode prog_13_method_60_code 34 = .ok (.iload_n 1, 1) := by decide +kernel
theorem d_Mo_laysHour_35 : decode prog_13_method_60_code 35 = .ok (.invokevirtual 324, 3) := by decide +kernel
theorem d_Mo_laysHour_38 : decode prog_13_method_60_code 38 = .ok (.bastore, 1) := by decide +kernel
theorem d_Mo_laysHour_39 : decode prog_13_method_60_code 39 = .ok (.aload_n 0, 1) := by decide +kernel
theorem d_Mo_laysHour_40 : decode prog_13_method_60_code 40 = .ok (.getfield 74, 3) := by decide +kernel
theorem d_Mo_laysHour_43 : decode prog_13_method_60_code 43 = .ok (.iload_n 1, 1) := by decide +kernel
theorem d_Mo_laysHour_44 : decode prog_13_method_60_code 44 = .ok (.baload, 1) := by decide +kernel
theorem d_Mo_laysHour_49 : decode prog_13_method_60_code 49 = .ok (.aload_n 0, 1) := by decide +kernel
theorem d_Mo_laysHour_50 : decode prog_13_method_60_code 50 = .ok (.iload_n 1, 1) := by decide +kernel
theorem d_Mo_laysHour_51 : decode prog_13_method_60_code 51 = .ok (.invokevirtual 327, 3) := by decide +kernel
theorem d_Mo_laysHour_54 : decode prog_13_method_60_code 54 = .ok (.istore_n 2, 1) := by decide +kernel
theorem d_Mo_laysHour_55 : decode prog_13_method_60_code 55 = .ok (.aload_n 0, 1) := by decide +kernel
theorem d_Mo_laysHour_56 : decode prog_13_method_60_code 56 = .ok (.iload_n 1, 1) := by decide +kernel
theorem d_Mo_laysHour_57 : decode prog_13_method_60_code 57 = .ok (.invokevirtual 330, 3) := by decide +kernel
theorem d_Mo_laysHour_60 : decode prog_13_method_60_code 60 = .ok (.istore_n 3, 1) := by decide +kernel
theorem d_Mo_laysHour_61 : decode prog_13_method_60_code 61 = .ok (.iconst 0, 1) := by decide +kernel
theorem d_Mo_laysHour_62 : decode prog_13_method_60_code 62 = .ok (.istore 4, 2) := by decide +kernel
theorem d_Mo_laysHour_64 : decode prog_13_method_60_code 64 = .ok (.iload 4, 2) := by decide +kernel
theorem d_Mo_laysHour_66 : decode prog_13_method_60_code 66 = .ok (.aload_n 0, 1) := by decide +kernel
theorem d_Mo_laysHour_67 : decode prog_13_method_60_code 67 = .ok (.getfield 167, 3) := by decide +kernel
theorem d_Mo_laysHour_73 : decode prog_13_method_60_code 73 = .ok (.aload_n 0, 1) := by decide +kernel
theorem d_Mo_laysHour_74 : decode prog_13_method_60_code 74 = .ok (.getfield 174, 3) := by decide +kernel
theorem d_Mo_laysHour_77 : decode prog_13_method_60_code 77 = .ok (.iload 4, 2) := by decide +kernel
theorem d_Mo_laysHour_79 : decode prog_13_method_60_code 79 = .ok (.invokestatic 177, 3) := by decide +kernel
theorem d_Mo_laysHour_88 : decode prog_13_method_60_code 88 = .ok (.aload_n 0, 1) := by decide +kernel
theorem d_Mo_laysHour_89 : decode prog_13_method_60_code 89 = .ok (.getfield 7, 3) := by decide +kernel
theorem d_Mo_laysHour_92 : decode prog_13_method_60_code 92 = .ok (.iload 4, 2) := by decide +kernel
theorem d_Mo_laysHour_94 : decode prog_13_method_60_code 94 = .ok (.iaload, 1) := by decide +kernel
theorem d_Mo_laysHour_95 : decode prog_13_method_60_code 95 = .ok (.iconst 2, 1) := by decide +kernel
theorem d_Mo_laysHour_109 : decode prog_13_method_60_code 109 = .ok (.aload_n 0, 1) := by decide +kernel
theorem d_Mo_laysHour_110 : decode prog_13_method_60_code 110 = .ok (.iload_n 1, 1) := by decide +kernel
theorem d_Mo_laysHour_111 : decode prog_13_method_60_code 111 = .ok (.iload 4, 2) := by decide +kernel
theorem d_Mo_laysHour_113 : decode prog_13_method_60_code 113 = .ok (.iload_n 2, 1) := by decide +kernel
theorem d_Mo_laysHour_114 : decode prog_13_method_60_code 114 = .ok (.iload_n 3, 1) := by decide +kernel
theorem d_Mo_laysHour_115 : decode prog_13_method_60_code 115 = .ok (.invokevirtual 361, 3) := by decide +kernel
theorem k_Mo_castsFar : MOk m_Mo_castsFar 4 ∧ IOk m_Mo_castsFar := ⟨⟨atG 1788 (by decide +kernel) rfl, atG 122 (by decide +kernel) rfl, ⟨by decide, by decide⟩, by decide +kernel, by decide⟩, atG 1787 (by decide +kernel) rfl, atG 78 (by decide +kernel) rfl⟩
theorem lk_Mo_361 : Cond.methodLink "ShadeTownModel" 361 ⟨"ShadeTownModel", "castsFar", "(IIII)V"⟩ ∈ tblG := atG 1785 (by decide +kernel) rfl
theorem d_Mo_laysHour_99 : decode prog_13_method_60_code 99 = .ok (.aload_n 0, 1) := by decide +kernel
theorem d_Mo_laysHour_100 : decode prog_13_method_60_code 100 = .ok (.iload_n 1, 1) := by decide +kernel
theorem d_Mo_laysHour_101 : decode prog_13_method_60_code 101 = .ok (.iload 4, 2) := by decide +kernel
theorem d_Mo_laysHour_103 : decode prog_13_method_60_code 103 = .ok (.invokevirtual 358, 3) := by decide +kernel
theorem k_Mo_castsNear : MOk m_Mo_castsNear 2 ∧ IOk m_Mo_castsNear := ⟨⟨atG 1774 (by decide +kernel) rfl, atG 122 (by decide +kernel) rfl, ⟨by decide, by decide⟩, by decide +kernel, by decide⟩, atG 1773 (by decide +kernel) rfl, atG 76 (by decide +kernel) rfl⟩
theorem lk_Mo_358 : Cond.methodLink "ShadeTownModel" 358 ⟨"ShadeTownModel", "castsNear", "(II)V"⟩ ∈ tblG := atG 1771 (by decide +kernel) rfl
theorem d_Mo_laysHour_106 : decode prog_13_method_60_code 106 = .ok (.goto 12, 3) := by decide +kernel
theorem d_Mo_laysHour_96 : decode prog_13_method_60_code 96 = .ok (.if_icmp .ne 13, 3) := by decide +kernel
theorem d_Mo_laysHour_85 : decode prog_13_method_60_code 85 = .ok (.goto 33, 3) := by decide +kernel
theorem d_Mo_laysHour_82 : decode prog_13_method_60_code 82 = .ok (.ifCond .ne 6, 3) := by decide +kernel
theorem d_Mo_laysHour_118 : decode prog_13_method_60_code 118 = .ok (.iinc 4 1, 3) := by decide +kernel
theorem d_Mo_laysHour_121 : decode prog_13_method_60_code 121 = .ok (.goto (-57), 3) := by decide +kernel
theorem d_Mo_laysHour_70 : decode prog_13_method_60_code 70 = .ok (.if_icmp .ge 54, 3) := by decide +kernel
theorem d_Mo_laysHour_124 : decode prog_13_method_60_code 124 = .ok (.iconst 0, 1) := by decide +kernel
theorem d_Mo_laysHour_125 : decode prog_13_method_60_code 125 = .ok (.istore 4, 2) := by decide +kernel
theorem d_Mo_laysHour_127 : decode prog_13_method_60_code 127 = .ok (.iload 4, 2) := by decide +kernel
theorem d_Mo_laysHour_129 : decode prog_13_method_60_code 129 = .ok (.sipush 144, 3) := by decide +kernel
theorem d_Mo_laysHour_165 : decode prog_13_method_60_code 165 = .ok (.return_, 1) := by decide +kernel
theorem d_Mo_laysHour_135 : decode prog_13_method_60_code 135 = .ok (.aload_n 0, 1) := by decide +kernel
theorem d_Mo_laysHour_136 : decode prog_13_method_60_code 136 = .ok (.getfield 78, 3) := by decide +kernel
theorem d_Mo_laysHour_139 : decode prog_13_method_60_code 139 = .ok (.iload 4, 2) := by decide +kernel
theorem d_Mo_laysHour_141 : decode prog_13_method_60_code 141 = .ok (.baload, 1) := by decide +kernel
theorem d_Mo_laysHour_145 : decode prog_13_method_60_code 145 = .ok (.aload_n 0, 1) := by decide +kernel
theorem d_Mo_laysHour_146 : decode prog_13_method_60_code 146 = .ok (.getfield 71, 3) := by decide +kernel
theorem d_Mo_laysHour_149 : decode prog_13_method_60_code 149 = .ok (.sipush 144, 3) := by decide +kernel
theorem d_Mo_laysHour_152 : decode prog_13_method_60_code 152 = .ok (.iload_n 1, 1) := by decide +kernel
theorem d_Mo_laysHour_153 : decode prog_13_method_60_code 153 = .ok (.imul, 1) := by decide +kernel
theorem d_Mo_laysHour_154 : decode prog_13_method_60_code 154 = .ok (.iload 4, 2) := by decide +kernel
theorem d_Mo_laysHour_156 : decode prog_13_method_60_code 156 = .ok (.iadd, 1) := by decide +kernel
theorem d_Mo_laysHour_157 : decode prog_13_method_60_code 157 = .ok (.iconst 0, 1) := by decide +kernel
theorem d_Mo_laysHour_158 : decode prog_13_method_60_code 158 = .ok (.iastore, 1) := by decide +kernel
theorem d_Mo_laysHour_142 : decode prog_13_method_60_code 142 = .ok (.ifCond .ne 17, 3) := by decide +kernel
theorem d_Mo_laysHour_159 : decode prog_13_method_60_code 159 = .ok (.iinc 4 1, 3) := by decide +kernel
theorem d_Mo_laysHour_162 : decode prog_13_method_60_code 162 = .ok (.goto (-35), 3) := by decide +kernel
theorem d_Mo_laysHour_132 : decode prog_13_method_60_code 132 = .ok (.if_icmp .ge 33, 3) := by decide +kernel
theorem d_Mo_laysHour_48 : decode prog_13_method_60_code 48 = .ok (.return_, 1) := by decide +kernel
theorem d_Mo_laysHour_45 : decode prog_13_method_60_code 45 = .ok (.ifCond .ne 4, 3) := by decide +kernel
def B_Mo_laysHour_l2 (N : Nat) (a1 : Int32) (rec : Int32 → Mem → Option (Mem)) (x2 : Int32) (σ : Mem) : Option (Mem) :=
  if 144 ≤ x2 then
    (some σ)
  else
    (grd (inb ((144 * a1) + x2) 3456) <|
    letv (sI σ 86 (((144 * a1) + x2).toNatClampNeg) 0) fun σ21 =>
    letv (x2 + 1) fun v22 =>
    rec v22 σ21)
def L_Mo_laysHour_l2 (N : Nat) (a1 : Int32) : Nat → Int32 → Mem → Option (Mem)
  | 0, _, _ => none
  | k + 1, x2, σ => B_Mo_laysHour_l2 N a1 (L_Mo_laysHour_l2 N a1 k) x2 σ
set_option maxHeartbeats 4000000 in
set_option maxRecDepth 20000 in
theorem cL_Mo_laysHour_l2 (Z : ZX) {Y : YX} {Q : State → Prop} {N : Nat} {a1 : Int32} {Good : Mem → Prop} (hE : ∀ (σe : Mem), Good σe → V (mkB Z) Y m_Mo_laysHour 4 Q 0 0 nC σe 28 [(0, rf Z 65), (1, .int a1)] []) : ∀ (k : Nat) (x2 : Int32) (σ : Mem) (res : Mem), L_Mo_laysHour_l2 N a1 k x2 σ = some res → Good res → V (mkB Z) Y m_Mo_laysHour 4 Q 0 0 nC σ 2 [(0, rf Z 65), (1, .int a1), (2, .int x2)] [] := by
  intro k
  induction k with
  | zero => intro x2 σ res h; cases h
  | succ k ih =>
    intro x2 σ res h hg
    replace h : B_Mo_laysHour_l2 N a1 (L_Mo_laysHour_l2 N a1 k) x2 σ = some res := h
    unfold B_Mo_laysHour_l2 at h
    refine V.iload_n d_Mo_laysHour_2 rfl 2 rfl ?_
    refine V.sipush (v := 144) d_Mo_laysHour_3 (by decide) ?_
    refine V.icmp_ge (tgt := 28) d_Mo_laysHour_6 (by decide) (fun hc6 => ?_) (fun hc6 => ?_)
    · replace h := ite_t hc6 h
      cases h
      exact V.pick [0, 1] rfl (hE _ hg)
    · replace h := ite_f hc6 h
      refine V.aload_n d_Mo_laysHour_9 rfl 0 rfl ?_
      refine V.getR (r := 86) ok_Mo fl_Mo_71 (by decide) (by decide) ly_65 rfl d_Mo_laysHour_10 ?_
      refine V.sipush (v := 144) d_Mo_laysHour_13 (by decide) ?_
      refine V.iload_n d_Mo_laysHour_16 rfl 1 rfl ?_
      refine V.imul d_Mo_laysHour_17 ?_
      refine V.iload_n d_Mo_laysHour_18 rfl 2 rfl ?_
      refine V.iadd d_Mo_laysHour_19 ?_
      refine V.iconst (v := 0) d_Mo_laysHour_20 (by decide) ?_
      obtain ⟨gq, h⟩ := grd_e h
      obtain ⟨σ21, e_σ21, h⟩ := letv_e h
      refine V.wa (by decide) ly_86 (inb_e gq) rfl d_Mo_laysHour_21 e_σ21 ?_
      obtain ⟨v22, e_v22, h⟩ := letv_e h
      refine V.iinc (v := v22) (lv' := [(2, .int v22), (0, rf Z 65), (1, .int a1)]) d_Mo_laysHour_22 2 rfl (by rw [e_v22]; rfl) (by decide) rfl ?_
      refine V.goto (tgt := 2) d_Mo_laysHour_25 (by decide) ?_
      exact V.pick [1, 2, 0] rfl (ih _ _ _ h hg)
def B_Mo_laysHour_l64 (N : Nat) (a1 : Int32) (a2 : Int32) (a3 : Int32) (rec : Int32 → Mem → Option (Mem)) (x4 : Int32) (σ : Mem) : Option (Mem) :=
  if (mI σ 65 0) ≤ x4 then
    (some σ)
  else
    (bnd1 (f_Mo_has (mI σ 65 1) x4) fun r79 =>
    bnd1 ((
      if r79 = 0 then
        (some σ)
      else
        (grd (inb x4 17) <|
        if (mI σ 66 (x4.toNatClampNeg)) = 2 then
          (bnd1 (f_Mo_castsNear N σ a1 x4) fun σ103 =>
          some σ103)
        else
          (bnd1 (f_Mo_castsFar N σ a1 x4 a2 a3) fun σ115 =>
          some σ115))) : Option (Mem)) fun σ82_ =>
    letv (x4 + 1) fun v118 =>
    rec v118 σ82_)
def L_Mo_laysHour_l64 (N : Nat) (a1 : Int32) (a2 : Int32) (a3 : Int32) : Nat → Int32 → Mem → Option (Mem)
  | 0, _, _ => none
  | k + 1, x4, σ => B_Mo_laysHour_l64 N a1 a2 a3 (L_Mo_laysHour_l64 N a1 a2 a3 k) x4 σ
set_option maxHeartbeats 4000000 in
set_option maxRecDepth 20000 in
theorem cL_Mo_laysHour_l64 (Z : ZX) {Y : YX} {Q : State → Prop} {N : Nat} {a1 : Int32} {a2 : Int32} {a3 : Int32} {Good : Mem → Prop} (hE : ∀ (σe : Mem), Good σe → V (mkB Z) Y m_Mo_laysHour 4 Q 0 0 nC σe 124 [(0, rf Z 65), (1, .int a1)] []) : ∀ (k : Nat) (x4 : Int32) (σ : Mem) (res : Mem), L_Mo_laysHour_l64 N a1 a2 a3 k x4 σ = some res → Good res → V (mkB Z) Y m_Mo_laysHour 4 Q 0 0 nC σ 64 [(0, rf Z 65), (1, .int a1), (2, .int a2), (3, .int a3), (4, .int x4)] [] := by
  intro k
  induction k with
  | zero => intro x4 σ res h; cases h
  | succ k ih =>
    intro x4 σ res h hg
    replace h : B_Mo_laysHour_l64 N a1 a2 a3 (L_Mo_laysHour_l64 N a1 a2 a3 k) x4 σ = some res := h
    unfold B_Mo_laysHour_l64 at h
    refine V.iload d_Mo_laysHour_64 4 rfl ?_
    refine V.aload_n d_Mo_laysHour_66 rfl 0 rfl ?_
    refine V.getI ok_Mo fl_Mo_167 (by decide) (by decide) ly_65 rfl d_Mo_laysHour_67 ?_
    refine V.icmp_ge (tgt := 124) d_Mo_laysHour_70 (by decide) (fun hc70 => ?_) (fun hc70 => ?_)
    · replace h := ite_t hc70 h
      cases h
      exact V.pick [0, 1] rfl (hE _ hg)
    · replace h := ite_f hc70 h
      refine V.aload_n d_Mo_laysHour_73 rfl 0 rfl ?_
      refine V.getI ok_Mo fl_Mo_174 (by decide) (by decide) ly_65 rfl d_Mo_laysHour_74 ?_
      refine V.iload d_Mo_laysHour_77 4 rfl ?_
      obtain ⟨r79, h1, h⟩ := bnd1_e h
      refine V.sI (as := [.int (mI σ 65 1), .int x4]) (st := []) (c_Mo_has Z h1) k_Mo_has lk_Mo_177 (by decide) rfl rfl (Nat.le_of_ble_eq_true rfl) d_Mo_laysHour_79 ?_
      obtain ⟨s82, h1, h⟩ := bnd1_e h
      have J82_118 : ∀ (σ82_ : Mem), s82 = σ82_ → V (mkB Z) Y m_Mo_laysHour 4 Q 0 0 nC σ82_ 118 [(0, rf Z 65), (1, .int a1), (2, .int a2), (3, .int a3), (4, .int x4)] [] := by
        intro σ82_ he
        rw [he] at h
        obtain ⟨v118, e_v118, h⟩ := letv_e h
        refine V.iinc (v := v118) (lv' := [(4, .int v118), (0, rf Z 65), (1, .int a1), (2, .int a2), (3, .int a3)]) d_Mo_laysHour_118 4 rfl (by rw [e_v118]; rfl) (by decide) rfl ?_
        refine V.goto (tgt := 64) d_Mo_laysHour_121 (by decide) ?_
        exact V.pick [1, 2, 3, 4, 0] rfl (ih _ _ _ h hg)
      replace h := h1
      refine V.if_ne (tgt := 88) d_Mo_laysHour_82 (by decide) (fun hc82 => ?_) (fun hc82 => ?_)
      · replace h := ite_f hc82 h
        refine V.aload_n d_Mo_laysHour_88 rfl 0 rfl ?_
        refine V.getR (r := 66) ok_Mo fl_Mo_7 (by decide) (by decide) ly_65 rfl d_Mo_laysHour_89 ?_
        refine V.iload d_Mo_laysHour_92 4 rfl ?_
        obtain ⟨gq, h⟩ := grd_e h
        refine V.ra (by decide) ly_66 (inb_e gq) rfl d_Mo_laysHour_94 ?_
        refine V.iconst (v := 2) d_Mo_laysHour_95 (by decide) ?_
        refine V.icmp_ne (tgt := 109) d_Mo_laysHour_96 (by decide) (fun hc96 => ?_) (fun hc96 => ?_)
        · replace h := ite_f hc96 h
          refine V.aload_n d_Mo_laysHour_109 rfl 0 rfl ?_
          refine V.iload_n d_Mo_laysHour_110 rfl 1 rfl ?_
          refine V.iload d_Mo_laysHour_111 4 rfl ?_
          refine V.iload_n d_Mo_laysHour_113 rfl 2 rfl ?_
          refine V.iload_n d_Mo_laysHour_114 rfl 3 rfl ?_
          obtain ⟨σ115, h1, h⟩ := bnd1_e h
          refine V.vN (as := [.int a1, .int x4, .int a2, .int a3]) (st := []) (c_Mo_castsFar Z h1) k_Mo_castsFar lk_Mo_361 (by decide) rfl (by decide) ly_65 ok_Mo.1 rfl (Nat.le_of_ble_eq_true rfl) d_Mo_laysHour_115 ?_
          exact V.pick [0, 1, 2, 3, 4] rfl (J82_118 _ (Option.some.inj h).symm)
        · replace h := ite_t hc96 h
          refine V.aload_n d_Mo_laysHour_99 rfl 0 rfl ?_
          refine V.iload_n d_Mo_laysHour_100 rfl 1 rfl ?_
          refine V.iload d_Mo_laysHour_101 4 rfl ?_
          obtain ⟨σ103, h1, h⟩ := bnd1_e h
          refine V.vN (as := [.int a1, .int x4]) (st := []) (c_Mo_castsNear Z h1) k_Mo_castsNear lk_Mo_358 (by decide) rfl (by decide) ly_65 ok_Mo.1 rfl (Nat.le_of_ble_eq_true rfl) d_Mo_laysHour_103 ?_
          refine V.goto (tgt := 118) d_Mo_laysHour_106 (by decide) ?_
          exact V.pick [0, 1, 2, 3, 4] rfl (J82_118 _ (Option.some.inj h).symm)
      · replace h := ite_t hc82 h
        refine V.goto (tgt := 118) d_Mo_laysHour_85 (by decide) ?_
        exact V.pick [0, 1, 2, 3, 4] rfl (J82_118 _ (Option.some.inj h).symm)
def B_Mo_laysHour_l127 (N : Nat) (a1 : Int32) (rec : Int32 → Mem → Option (Mem)) (x4 : Int32) (σ : Mem) : Option (Mem) :=
  if 144 ≤ x4 then
    (some σ)
  else
    (grd (inb x4 144) <|
    bnd1 ((
      if (mI σ 88 (x4.toNatClampNeg)) = 0 then
        (grd (inb ((144 * a1) + x4) 3456) <|
        letv (sI σ 86 (((144 * a1) + x4).toNatClampNeg) 0) fun σ158 =>
        some σ158)
      else
        (some σ)) : Option (Mem)) fun σ142_ =>
    letv (x4 + 1) fun v159 =>
    rec v159 σ142_)
def L_Mo_laysHour_l127 (N : Nat) (a1 : Int32) : Nat → Int32 → Mem → Option (Mem)
  | 0, _, _ => none
  | k + 1, x4, σ => B_Mo_laysHour_l127 N a1 (L_Mo_laysHour_l127 N a1 k) x4 σ
set_option maxHeartbeats 4000000 in
set_option maxRecDepth 20000 in
theorem cL_Mo_laysHour_l127 (Z : ZX) {Y : YX} {post : Option Value → Mem → Prop} {N : Nat} {a1 : Int32} {Good : Mem → Prop} (hR : ∀ (σr : Mem), Good σr → post none σr) : ∀ (k : Nat) (x4 : Int32) (σ : Mem) (res : Mem), L_Mo_laysHour_l127 N a1 k x4 σ = some res → Good res → V (mkB Z) Y m_Mo_laysHour 4 (QP (mkB Z) Y nC 0 0 post) 0 0 nC σ 127 [(0, rf Z 65), (1, .int a1), (4, .int x4)] [] := by
  intro k
  induction k with
  | zero => intro x4 σ res h; cases h
  | succ k ih =>
    intro x4 σ res h hg
    replace h : B_Mo_laysHour_l127 N a1 (L_Mo_laysHour_l127 N a1 k) x4 σ = some res := h
    unfold B_Mo_laysHour_l127 at h
    refine V.iload d_Mo_laysHour_127 2 rfl ?_
    refine V.sipush (v := 144) d_Mo_laysHour_129 (by decide) ?_
    refine V.icmp_ge (tgt := 165) d_Mo_laysHour_132 (by decide) (fun hc132 => ?_) (fun hc132 => ?_)
    · replace h := ite_t hc132 h
      cases h
      exact V.vret rfl d_Mo_laysHour_165 (hR _ hg)
    · replace h := ite_f hc132 h
      refine V.aload_n d_Mo_laysHour_135 rfl 0 rfl ?_
      refine V.getR (r := 88) ok_Mo fl_Mo_78 (by decide) (by decide) ly_65 rfl d_Mo_laysHour_136 ?_
      refine V.iload d_Mo_laysHour_139 2 rfl ?_
      obtain ⟨gq, h⟩ := grd_e h
      refine V.rz (by decide) ly_88 (inb_e gq) rfl d_Mo_laysHour_141 ?_
      obtain ⟨s142, h1, h⟩ := bnd1_e h
      have J142_159 : ∀ (σ142_ : Mem), s142 = σ142_ → V (mkB Z) Y m_Mo_laysHour 4 (QP (mkB Z) Y nC 0 0 post) 0 0 nC σ142_ 159 [(0, rf Z 65), (1, .int a1), (4, .int x4)] [] := by
        intro σ142_ he
        rw [he] at h
        obtain ⟨v159, e_v159, h⟩ := letv_e h
        refine V.iinc (v := v159) (lv' := [(4, .int v159), (0, rf Z 65), (1, .int a1)]) d_Mo_laysHour_159 2 rfl (by rw [e_v159]; rfl) (by decide) rfl ?_
        refine V.goto (tgt := 127) d_Mo_laysHour_162 (by decide) ?_
        exact V.pick [1, 2, 0] rfl (ih _ _ _ h hg)
      replace h := h1
      refine V.if_ne (tgt := 159) d_Mo_laysHour_142 (by decide) (fun hc142 => ?_) (fun hc142 => ?_)
      · replace h := ite_f hc142 h
        exact V.pick [0, 1, 2] rfl (J142_159 _ (Option.some.inj h).symm)
      · replace h := ite_t hc142 h
        refine V.aload_n d_Mo_laysHour_145 rfl 0 rfl ?_
        refine V.getR (r := 86) ok_Mo fl_Mo_71 (by decide) (by decide) ly_65 rfl d_Mo_laysHour_146 ?_
        refine V.sipush (v := 144) d_Mo_laysHour_149 (by decide) ?_
        refine V.iload_n d_Mo_laysHour_152 rfl 1 rfl ?_
        refine V.imul d_Mo_laysHour_153 ?_
        refine V.iload d_Mo_laysHour_154 2 rfl ?_
        refine V.iadd d_Mo_laysHour_156 ?_
        refine V.iconst (v := 0) d_Mo_laysHour_157 (by decide) ?_
        obtain ⟨gq, h⟩ := grd_e h
        obtain ⟨σ158, e_σ158, h⟩ := letv_e h
        refine V.wa (by decide) ly_86 (inb_e gq) rfl d_Mo_laysHour_158 e_σ158 ?_
        exact V.pick [0, 1, 2] rfl (J142_159 _ (Option.some.inj h).symm)
def f_Mo_laysHour (N : Nat) (σ : Mem) (a1 : Int32) : Option (Mem) :=
  bnd1 (L_Mo_laysHour_l2 N a1 N 0 σ) fun σ2_ =>
  bnd2 (f_Mo_isUp N σ2_ a1) fun r35 σ35 =>
  grd (inb a1 24) <|
  letv (sI σ35 87 (a1.toNatClampNeg) (r35 &&& 1)) fun σ38 =>
  grd (inb a1 24) <|
  if (mI σ38 87 (a1.toNatClampNeg)) = 0 then
    (some σ38)
  else
    (bnd2 (f_Mo_eastOf N σ38 a1) fun r51 σ51 =>
    bnd2 (f_Mo_northOf N σ51 a1) fun r57 σ57 =>
    bnd1 (L_Mo_laysHour_l64 N a1 r51 r57 N 0 σ57) fun σ64_ =>
    L_Mo_laysHour_l127 N a1 N 0 σ64_)
set_option maxHeartbeats 4000000 in
set_option maxRecDepth 20000 in
theorem c_Mo_laysHour (Z : ZX) {N : Nat} {σ : Mem} {a1 : Int32} {σ' : Mem} (h : f_Mo_laysHour N σ a1 = some σ') : CN Z 4 m_Mo_laysHour [rf Z 65, .int a1] σ σ' := by
  refine Ct.of (by decide +kernel) (Nat.le_of_ble_eq_true rfl) (fun Y => ?_)
  show V (mkB Z) Y m_Mo_laysHour 4 (QP (mkB Z) Y nC 0 0 (fun v t => v = none ∧ t = σ')) 0 0 nC σ 0 [(0, rf Z 65), (1, .int a1)] []
  unfold f_Mo_laysHour at h
  refine V.iconst (v := 0) d_Mo_laysHour_0 (by decide) ?_
  refine V.istore_n (lv' := [(2, .int 0), (0, rf Z 65), (1, .int a1)]) d_Mo_laysHour_1 rfl (by decide) rfl ?_
  obtain ⟨x2_, h1, h⟩ := bnd1_e h
  refine V.pick [1, 2, 0] rfl (cL_Mo_laysHour_l2 Z (Good := fun z => x2_ = z) (fun σ2_ he => ?_) N _ _ _ h1 rfl)
  · rw [he] at h
    refine V.aload_n d_Mo_laysHour_28 rfl 0 rfl ?_
    refine V.getR (r := 87) ok_Mo fl_Mo_74 (by decide) (by decide) ly_65 rfl d_Mo_laysHour_29 ?_
    refine V.iload_n d_Mo_laysHour_32 rfl 1 rfl ?_
    refine V.aload_n d_Mo_laysHour_33 rfl 0 rfl ?_
    refine V.iload_n d_Mo_laysHour_34 rfl 1 rfl ?_
    obtain ⟨r35, σ35, h1, h⟩ := bnd2_e h
    refine V.vI (as := [.int a1]) (st := [.int a1, rf Z 87]) (c_Mo_isUp Z h1) k_Mo_isUp lk_Mo_324 (by decide) rfl (by decide) ly_65 ok_Mo.1 rfl (Nat.le_of_ble_eq_true rfl) d_Mo_laysHour_35 ?_
    obtain ⟨gq, h⟩ := grd_e h
    obtain ⟨σ38, e_σ38, h⟩ := letv_e h
    refine V.wz (by decide) ly_87 (inb_e gq) rfl d_Mo_laysHour_38 e_σ38 ?_
    refine V.aload_n d_Mo_laysHour_39 rfl 0 rfl ?_
    refine V.getR (r := 87) ok_Mo fl_Mo_74 (by decide) (by decide) ly_65 rfl d_Mo_laysHour_40 ?_
    refine V.iload_n d_Mo_laysHour_43 rfl 1 rfl ?_
    obtain ⟨gq, h⟩ := grd_e h
    refine V.rz (by decide) ly_87 (inb_e gq) rfl d_Mo_laysHour_44 ?_
    refine V.if_ne (tgt := 49) d_Mo_laysHour_45 (by decide) (fun hc45 => ?_) (fun hc45 => ?_)
    · replace h := ite_f hc45 h
      refine V.aload_n d_Mo_laysHour_49 rfl 0 rfl ?_
      refine V.iload_n d_Mo_laysHour_50 rfl 1 rfl ?_
      obtain ⟨r51, σ51, h1, h⟩ := bnd2_e h
      refine V.vI (as := [.int a1]) (st := []) (c_Mo_eastOf Z h1) k_Mo_eastOf lk_Mo_327 (by decide) rfl (by decide) ly_65 ok_Mo.1 rfl (Nat.le_of_ble_eq_true rfl) d_Mo_laysHour_51 ?_
      refine V.istore_n (lv' := [(2, .int r51), (0, rf Z 65), (1, .int a1)]) d_Mo_laysHour_54 rfl (by decide) rfl ?_
      refine V.aload_n d_Mo_laysHour_55 rfl 1 rfl ?_
      refine V.iload_n d_Mo_laysHour_56 rfl 2 rfl ?_
      obtain ⟨r57, σ57, h1, h⟩ := bnd2_e h
      refine V.vI (as := [.int a1]) (st := []) (c_Mo_northOf Z h1) k_Mo_northOf lk_Mo_330 (by decide) rfl (by decide) ly_65 ok_Mo.1 rfl (Nat.le_of_ble_eq_true rfl) d_Mo_laysHour_57 ?_
      refine V.istore_n (lv' := [(3, .int r57), (2, .int r51), (0, rf Z 65), (1, .int a1)]) d_Mo_laysHour_60 rfl (by decide) rfl ?_
      refine V.iconst (v := 0) d_Mo_laysHour_61 (by decide) ?_
      refine V.istore (lv' := [(4, .int 0), (3, .int r57), (2, .int r51), (0, rf Z 65), (1, .int a1)]) d_Mo_laysHour_62 (by decide) rfl ?_
      obtain ⟨x64_, h1, h⟩ := bnd1_e h
      refine V.pick [3, 4, 2, 1, 0] rfl (cL_Mo_laysHour_l64 Z (Good := fun z => x64_ = z) (fun σ64_ he => ?_) N _ _ _ h1 rfl)
      · rw [he] at h
        refine V.iconst (v := 0) d_Mo_laysHour_124 (by decide) ?_
        refine V.istore (lv' := [(4, .int 0), (0, rf Z 65), (1, .int a1)]) d_Mo_laysHour_125 (by decide) rfl ?_
        refine V.pick [1, 2, 0] rfl (cL_Mo_laysHour_l127 Z (Good := fun z => z = _) (fun r127m he => ?_) N _ _ _ h rfl)
        · cases he
          exact ⟨rfl, rfl⟩
    · replace h := ite_t hc45 h
      cases h
      exact V.vret rfl d_Mo_laysHour_48 ⟨rfl, rfl⟩
abbrev m_Mo_laysDay : MI := (⟨"ShadeTownModel", "laysDay", "()V"⟩, prog_13_method_61_code, 2, (Option.none : Option Jvm.ClassFile.FieldType))
theorem d_Mo_laysDay_0 : decode prog_13_method_61_code 0 = .ok (.aload_n 0, 1) := by decide +kernel
theorem d_Mo_laysDay_1 : decode prog_13_method_61_code 1 = .ok (.invokevirtual 364, 3) := by decide +kernel
theorem k_Mo_laysFree : MOk m_Mo_laysFree 0 ∧ IOk m_Mo_laysFree := ⟨⟨atG 1766 (by decide +kernel) rfl, atG 122 (by decide +kernel) rfl, ⟨by decide, by decide⟩, by decide +kernel, by decide⟩, atG 1765 (by decide +kernel) rfl, atG 74 (by decide +kernel) rfl⟩
theorem lk_Mo_364 : Cond.methodLink "ShadeTownModel" 364 ⟨"ShadeTownModel", "laysFree", "()V"⟩ ∈ tblG := atG 1763 (by decide +kernel) rfl
theorem d_Mo_laysDay_4 : decode prog_13_method_61_code 4 = .ok (.iconst 0, 1) := by decide +kernel
theorem d_Mo_laysDay_5 : decode prog_13_method_61_code 5 = .ok (.istore_n 1, 1) := by decide +kernel
theorem d_Mo_laysDay_6 : decode prog_13_method_61_code 6 = .ok (.iload_n 1, 1) := by decide +kernel
theorem d_Mo_laysDay_7 : decode prog_13_method_61_code 7 = .ok (.bipush 24, 2) := by decide +kernel
theorem d_Mo_laysDay_23 : decode prog_13_method_61_code 23 = .ok (.return_, 1) := by decide +kernel
theorem d_Mo_laysDay_12 : decode prog_13_method_61_code 12 = .ok (.aload_n 0, 1) := by decide +kernel
theorem d_Mo_laysDay_13 : decode prog_13_method_61_code 13 = .ok (.iload_n 1, 1) := by decide +kernel
theorem d_Mo_laysDay_14 : decode prog_13_method_61_code 14 = .ok (.invokevirtual 367, 3) := by decide +kernel
theorem k_Mo_laysHour : MOk m_Mo_laysHour 1 ∧ IOk m_Mo_laysHour := ⟨⟨atG 1770 (by decide +kernel) rfl, atG 122 (by decide +kernel) rfl, ⟨by decide, by decide⟩, by decide +kernel, by decide⟩, atG 1769 (by decide +kernel) rfl, atG 75 (by decide +kernel) rfl⟩
theorem lk_Mo_367 : Cond.methodLink "ShadeTownModel" 367 ⟨"ShadeTownModel", "laysHour", "(I)V"⟩ ∈ tblG := atG 1767 (by decide +kernel) rfl
theorem d_Mo_laysDay_17 : decode prog_13_method_61_code 17 = .ok (.iinc 1 1, 3) := by decide +kernel
theorem d_Mo_laysDay_20 : decode prog_13_method_61_code 20 = .ok (.goto (-14), 3) := by decide +kernel
theorem d_Mo_laysDay_9 : decode prog_13_method_61_code 9 = .ok (.if_icmp .ge 14, 3) := by decide +kernel
def B_Mo_laysDay_l6 (N : Nat) (rec : Int32 → Mem → Option (Mem)) (x1 : Int32) (σ : Mem) : Option (Mem) :=
  if 24 ≤ x1 then
    (some σ)
  else
    (bnd1 (f_Mo_laysHour N σ x1) fun σ14 =>
    letv (x1 + 1) fun v17 =>
    rec v17 σ14)
def L_Mo_laysDay_l6 (N : Nat) : Nat → Int32 → Mem → Option (Mem)
  | 0, _, _ => none
  | k + 1, x1, σ => B_Mo_laysDay_l6 N (L_Mo_laysDay_l6 N k) x1 σ
set_option maxHeartbeats 4000000 in
set_option maxRecDepth 20000 in
theorem cL_Mo_laysDay_l6 (Z : ZX) {Y : YX} {post : Option Value → Mem → Prop} {N : Nat} {Good : Mem → Prop} (hR : ∀ (σr : Mem), Good σr → post none σr) : ∀ (k : Nat) (x1 : Int32) (σ : Mem) (res : Mem), L_Mo_laysDay_l6 N k x1 σ = some res → Good res → V (mkB Z) Y m_Mo_laysDay 5 (QP (mkB Z) Y nC 0 0 post) 0 0 nC σ 6 [(0, rf Z 65), (1, .int x1)] [] := by
  intro k
  induction k with
  | zero => intro x1 σ res h; cases h
  | succ k ih =>
    intro x1 σ res h hg
    replace h : B_Mo_laysDay_l6 N (L_Mo_laysDay_l6 N k) x1 σ = some res := h
    unfold B_Mo_laysDay_l6 at h
    refine V.iload_n d_Mo_laysDay_6 rfl 1 rfl ?_
    refine V.bipush (v := 24) d_Mo_laysDay_7 (by decide) ?_
    refine V.icmp_ge (tgt := 23) d_Mo_laysDay_9 (by decide) (fun hc9 => ?_) (fun hc9 => ?_)
    · replace h := ite_t hc9 h
      cases h
      exact V.vret rfl d_Mo_laysDay_23 (hR _ hg)
    · replace h := ite_f hc9 h
      refine V.aload_n d_Mo_laysDay_12 rfl 0 rfl ?_
      refine V.iload_n d_Mo_laysDay_13 rfl 1 rfl ?_
      obtain ⟨σ14, h1, h⟩ := bnd1_e h
      refine V.vN (as := [.int x1]) (st := []) (c_Mo_laysHour Z h1) k_Mo_laysHour lk_Mo_367 (by decide) rfl (by decide) ly_65 ok_Mo.1 rfl (Nat.le_of_ble_eq_true rfl) d_Mo_laysDay_14 ?_
      obtain ⟨v17, e_v17, h⟩ := letv_e h
      refine V.iinc (v := v17) (lv' := [(1, .int v17), (0, rf Z 65)]) d_Mo_laysDay_17 1 rfl (by rw [e_v17]; rfl) (by decide) rfl ?_
      refine V.goto (tgt := 6) d_Mo_laysDay_20 (by decide) ?_
      exact V.pick [1, 0] rfl (ih _ _ _ h hg)
def f_Mo_laysDay (N : Nat) (σ : Mem) : Option (Mem) :=
  bnd1 (f_Mo_laysFree N σ) fun σ1 =>
  L_Mo_laysDay_l6 N N 0 σ1
set_option maxHeartbeats 4000000 in
set_option maxRecDepth 20000 in
theorem c_Mo_laysDay (Z : ZX) {N : Nat} {σ : Mem} {σ' : Mem} (h : f_Mo_laysDay N σ = some σ') : CN Z 5 m_Mo_laysDay [rf Z 65] σ σ' := by
  refine Ct.of (by decide +kernel) (Nat.le_of_ble_eq_true rfl) (fun Y => ?_)
  show V (mkB Z) Y m_Mo_laysDay 5 (QP (mkB Z) Y nC 0 0 (fun v t => v = none ∧ t = σ')) 0 0 nC σ 0 [(0, rf Z 65)] []
  unfold f_Mo_laysDay at h
  refine V.aload_n d_Mo_laysDay_0 rfl 0 rfl ?_
  obtain ⟨σ1, h1, h⟩ := bnd1_e h
  refine V.vN (as := []) (st := []) (c_Mo_laysFree Z h1) k_Mo_laysFree lk_Mo_364 (by decide) rfl (by decide) ly_65 ok_Mo.1 rfl (Nat.le_of_ble_eq_true rfl) d_Mo_laysDay_1 ?_
  refine V.iconst (v := 0) d_Mo_laysDay_4 (by decide) ?_
  refine V.istore_n (lv' := [(1, .int 0), (0, rf Z 65)]) d_Mo_laysDay_5 rfl (by decide) rfl ?_
  refine V.pick [1, 0] rfl (cL_Mo_laysDay_l6 Z (Good := fun z => z = _) (fun r6m he => ?_) N _ _ _ h rfl)
  · cases he
    exact ⟨rfl, rfl⟩
abbrev m_Mo_whoOn : MI := (⟨"ShadeTownModel", "whoOn", "(II)I"⟩, prog_13_method_62_code, 3, (Option.some Jvm.ClassFile.FieldType.int))
theorem d_Mo_whoOn_0 : decode prog_13_method_62_code 0 = .ok (.aload_n 0, 1) := by decide +kernel
theorem d_Mo_whoOn_1 : decode prog_13_method_62_code 1 = .ok (.getfield 71, 3) := by decide +kernel
theorem d_Mo_whoOn_4 : decode prog_13_method_62_code 4 = .ok (.sipush 144, 3) := by decide +kernel
theorem d_Mo_whoOn_7 : decode prog_13_method_62_code 7 = .ok (.iload_n 1, 1) := by decide +kernel
theorem d_Mo_whoOn_8 : decode prog_13_method_62_code 8 = .ok (.imul, 1) := by decide +kernel
theorem d_Mo_whoOn_9 : decode prog_13_method_62_code 9 = .ok (.iload_n 2, 1) := by decide +kernel
theorem d_Mo_whoOn_10 : decode prog_13_method_62_code 10 = .ok (.iadd, 1) := by decide +kernel
theorem d_Mo_whoOn_11 : decode prog_13_method_62_code 11 = .ok (.iaload, 1) := by decide +kernel
theorem d_Mo_whoOn_12 : decode prog_13_method_62_code 12 = .ok (.ireturn, 1) := by decide +kernel
def f_Mo_whoOn (σ : Mem) (a1 : Int32) (a2 : Int32) : Option (Int32) :=
  grd (inb ((144 * a1) + a2) 3456) <|
  some (mI σ 86 (((144 * a1) + a2).toNatClampNeg))
set_option maxHeartbeats 4000000 in
set_option maxRecDepth 20000 in
theorem c_Mo_whoOn (Z : ZX) {σ : Mem} {a1 : Int32} {a2 : Int32} {r : Int32} (h : f_Mo_whoOn σ a1 a2 = some r) : CI Z 0 m_Mo_whoOn [rf Z 65, .int a1, .int a2] σ r σ := by
  refine Ct.of (by decide +kernel) (Nat.le_of_ble_eq_true rfl) (fun Y => ?_)
  show V (mkB Z) Y m_Mo_whoOn 0 (QP (mkB Z) Y nC 0 0 (fun v t => v = some (.int r) ∧ t = σ)) 0 0 nC σ 0 [(0, rf Z 65), (1, .int a1), (2, .int a2)] []
  unfold f_Mo_whoOn at h
  refine V.aload_n d_Mo_whoOn_0 rfl 0 rfl ?_
  refine V.getR (r := 86) ok_Mo fl_Mo_71 (by decide) (by decide) ly_65 rfl d_Mo_whoOn_1 ?_
  refine V.sipush (v := 144) d_Mo_whoOn_4 (by decide) ?_
  refine V.iload_n d_Mo_whoOn_7 rfl 1 rfl ?_
  refine V.imul d_Mo_whoOn_8 ?_
  refine V.iload_n d_Mo_whoOn_9 rfl 2 rfl ?_
  refine V.iadd d_Mo_whoOn_10 ?_
  obtain ⟨gq, h⟩ := grd_e h
  refine V.ra (by decide) ly_86 (inb_e gq) rfl d_Mo_whoOn_11 ?_
  cases h
  exact V.iret rfl d_Mo_whoOn_12 ⟨rfl, rfl⟩
abbrev m_Mo_shade : MI := (⟨"ShadeTownModel", "shade", "(III)I"⟩, prog_13_method_63_code, 4, (Option.some Jvm.ClassFile.FieldType.int))
theorem d_Mo_shade_0 : decode prog_13_method_63_code 0 = .ok (.iload_n 1, 1) := by decide +kernel
theorem d_Mo_shade_1 : decode prog_13_method_63_code 1 = .ok (.iload_n 2, 1) := by decide +kernel
theorem d_Mo_shade_2 : decode prog_13_method_63_code 2 = .ok (.invokestatic 185, 3) := by decide +kernel
theorem d_Mo_shade_15 : decode prog_13_method_63_code 15 = .ok (.iconst (-1), 1) := by decide +kernel
theorem d_Mo_shade_16 : decode prog_13_method_63_code 16 = .ok (.ireturn, 1) := by decide +kernel
theorem d_Mo_shade_8 : decode prog_13_method_63_code 8 = .ok (.iload_n 3, 1) := by decide +kernel
theorem d_Mo_shade_9 : decode prog_13_method_63_code 9 = .ok (.invokestatic 321, 3) := by decide +kernel
theorem d_Mo_shade_17 : decode prog_13_method_63_code 17 = .ok (.aload_n 0, 1) := by decide +kernel
theorem d_Mo_shade_18 : decode prog_13_method_63_code 18 = .ok (.invokevirtual 370, 3) := by decide +kernel
theorem k_Mo_laysDay : MOk m_Mo_laysDay 0 ∧ IOk m_Mo_laysDay := ⟨⟨atG 1762 (by decide +kernel) rfl, atG 122 (by decide +kernel) rfl, ⟨by decide, by decide⟩, by decide +kernel, by decide⟩, atG 1761 (by decide +kernel) rfl, atG 73 (by decide +kernel) rfl⟩
theorem lk_Mo_370 : Cond.methodLink "ShadeTownModel" 370 ⟨"ShadeTownModel", "laysDay", "()V"⟩ ∈ tblG := atG 1759 (by decide +kernel) rfl
theorem d_Mo_shade_21 : decode prog_13_method_63_code 21 = .ok (.aload_n 0, 1) := by decide +kernel
theorem d_Mo_shade_22 : decode prog_13_method_63_code 22 = .ok (.iload_n 3, 1) := by decide +kernel
theorem d_Mo_shade_23 : decode prog_13_method_63_code 23 = .ok (.bipush 12, 2) := by decide +kernel
theorem d_Mo_shade_25 : decode prog_13_method_63_code 25 = .ok (.iload_n 2, 1) := by decide +kernel
theorem d_Mo_shade_26 : decode prog_13_method_63_code 26 = .ok (.imul, 1) := by decide +kernel
theorem d_Mo_shade_27 : decode prog_13_method_63_code 27 = .ok (.iload_n 1, 1) := by decide +kernel
theorem d_Mo_shade_28 : decode prog_13_method_63_code 28 = .ok (.iadd, 1) := by decide +kernel
theorem d_Mo_shade_29 : decode prog_13_method_63_code 29 = .ok (.invokevirtual 373, 3) := by decide +kernel
theorem k_Mo_whoOn : MOk m_Mo_whoOn 2 ∧ IOk m_Mo_whoOn := ⟨⟨atG 1801 (by decide +kernel) rfl, atG 122 (by decide +kernel) rfl, ⟨by decide, by decide⟩, by decide +kernel, by decide⟩, atG 1800 (by decide +kernel) rfl, atG 79 (by decide +kernel) rfl⟩
theorem lk_Mo_373 : Cond.methodLink "ShadeTownModel" 373 ⟨"ShadeTownModel", "whoOn", "(II)I"⟩ ∈ tblG := atG 1798 (by decide +kernel) rfl
theorem d_Mo_shade_32 : decode prog_13_method_63_code 32 = .ok (.ireturn, 1) := by decide +kernel
theorem d_Mo_shade_12 : decode prog_13_method_63_code 12 = .ok (.ifCond .ne 5, 3) := by decide +kernel
theorem d_Mo_shade_5 : decode prog_13_method_63_code 5 = .ok (.ifCond .eq 10, 3) := by decide +kernel
def f_Mo_shade (N : Nat) (σ : Mem) (a1 : Int32) (a2 : Int32) (a3 : Int32) : Option (Int32 × Mem) :=
  bnd1 (f_Mo_isIn a1 a2) fun r2 =>
  if r2 = 0 then
    (some ((-1), σ))
  else
    (bnd1 (f_Mo_isHour a3) fun r9 =>
    if r9 = 0 then
      (some ((-1), σ))
    else
      (bnd1 (f_Mo_laysDay N σ) fun σ18 =>
      bnd1 (f_Mo_whoOn σ18 a3 ((12 * a2) + a1)) fun r29 =>
      some (r29, σ18)))
set_option maxHeartbeats 4000000 in
set_option maxRecDepth 20000 in
theorem c_Mo_shade (Z : ZX) {N : Nat} {σ : Mem} {a1 : Int32} {a2 : Int32} {a3 : Int32} {r : Int32} {σ' : Mem} (h : f_Mo_shade N σ a1 a2 a3 = some (r, σ')) : CI Z 6 m_Mo_shade [rf Z 65, .int a1, .int a2, .int a3] σ r σ' := by
  refine Ct.of (by decide +kernel) (Nat.le_of_ble_eq_true rfl) (fun Y => ?_)
  show V (mkB Z) Y m_Mo_shade 6 (QP (mkB Z) Y nC 0 0 (fun v t => v = some (.int r) ∧ t = σ')) 0 0 nC σ 0 [(0, rf Z 65), (1, .int a1), (2, .int a2), (3, .int a3)] []
  unfold f_Mo_shade at h
  refine V.iload_n d_Mo_shade_0 rfl 1 rfl ?_
  refine V.iload_n d_Mo_shade_1 rfl 2 rfl ?_
  obtain ⟨r2, h1, h⟩ := bnd1_e h
  refine V.sI (as := [.int a1, .int a2]) (st := []) (c_Mo_isIn Z h1) k_Mo_isIn lk_Mo_185 (by decide) rfl rfl (Nat.le_of_ble_eq_true rfl) d_Mo_shade_2 ?_
  refine V.if_eq (tgt := 15) d_Mo_shade_5 (by decide) (fun hc5 => ?_) (fun hc5 => ?_)
  · replace h := ite_t hc5 h
    refine V.iconst (v := (-1)) d_Mo_shade_15 (by decide) ?_
    cases h
    exact V.iret rfl d_Mo_shade_16 ⟨rfl, rfl⟩
  · replace h := ite_f hc5 h
    refine V.iload_n d_Mo_shade_8 rfl 3 rfl ?_
    obtain ⟨r9, h1, h⟩ := bnd1_e h
    refine V.sI (as := [.int a3]) (st := []) (c_Mo_isHour Z h1) k_Mo_isHour lk_Mo_321 (by decide) rfl rfl (Nat.le_of_ble_eq_true rfl) d_Mo_shade_9 ?_
    refine V.if_ne (tgt := 17) d_Mo_shade_12 (by decide) (fun hc12 => ?_) (fun hc12 => ?_)
    · replace h := ite_f hc12 h
      refine V.aload_n d_Mo_shade_17 rfl 0 rfl ?_
      obtain ⟨σ18, h1, h⟩ := bnd1_e h
      refine V.vN (as := []) (st := []) (c_Mo_laysDay Z h1) k_Mo_laysDay lk_Mo_370 (by decide) rfl (by decide) ly_65 ok_Mo.1 rfl (Nat.le_of_ble_eq_true rfl) d_Mo_shade_18 ?_
      refine V.aload_n d_Mo_shade_21 rfl 0 rfl ?_
      refine V.iload_n d_Mo_shade_22 rfl 3 rfl ?_
      refine V.bipush (v := 12) d_Mo_shade_23 (by decide) ?_
      refine V.iload_n d_Mo_shade_25 rfl 2 rfl ?_
      refine V.imul d_Mo_shade_26 ?_
      refine V.iload_n d_Mo_shade_27 rfl 1 rfl ?_
      refine V.iadd d_Mo_shade_28 ?_
      obtain ⟨r29, h1, h⟩ := bnd1_e h
      refine V.vI (as := [.int a3, .int ((12 * a2) + a1)]) (st := []) (c_Mo_whoOn Z h1) k_Mo_whoOn lk_Mo_373 (by decide) rfl (by decide) ly_65 ok_Mo.1 rfl (Nat.le_of_ble_eq_true rfl) d_Mo_shade_29 ?_
      cases h
      exact V.iret rfl d_Mo_shade_32 ⟨rfl, rfl⟩
    · replace h := ite_t hc12 h
      refine V.iconst (v := (-1)) d_Mo_shade_15 (by decide) ?_
      cases h
      exact V.iret rfl d_Mo_shade_16 ⟨rfl, rfl⟩
abbrev m_Mo_bits : MI := (⟨"ShadeTownModel", "bits", "(I)I"⟩, prog_13_method_7_code, 3, (Option.some Jvm.ClassFile.FieldType.int))
theorem d_Mo_bits_0 : decode prog_13_method_7_code 0 = .ok (.iconst 0, 1) := by decide +kernel
theorem d_Mo_bits_1 : decode prog_13_method_7_code 1 = .ok (.istore_n 1, 1) := by decide +kernel
theorem d_Mo_bits_2 : decode prog_13_method_7_code 2 = .ok (.iconst 0, 1) := by decide +kernel
theorem d_Mo_bits_3 : decode prog_13_method_7_code 3 = .ok (.istore_n 2, 1) := by decide +kernel
theorem d_Mo_bits_4 : decode prog_13_method_7_code 4 = .ok (.iload_n 2, 1) := by decide +kernel
theorem d_Mo_bits_5 : decode prog_13_method_7_code 5 = .ok (.bipush 16, 2) := by decide +kernel
theorem d_Mo_bits_24 : decode prog_13_method_7_code 24 = .ok (.iload_n 1, 1) := by decide +kernel
theorem d_Mo_bits_25 : decode prog_13_method_7_code 25 = .ok (.ireturn, 1) := by decide +kernel
theorem d_Mo_bits_10 : decode prog_13_method_7_code 10 = .ok (.iload_n 1, 1) := by decide +kernel
theorem d_Mo_bits_11 : decode prog_13_method_7_code 11 = .ok (.iload_n 0, 1) := by decide +kernel
theorem d_Mo_bits_12 : decode prog_13_method_7_code 12 = .ok (.iload_n 2, 1) := by decide +kernel
theorem d_Mo_bits_13 : decode prog_13_method_7_code 13 = .ok (.ishr, 1) := by decide +kernel
theorem d_Mo_bits_14 : decode prog_13_method_7_code 14 = .ok (.iconst 1, 1) := by decide +kernel
theorem d_Mo_bits_15 : decode prog_13_method_7_code 15 = .ok (.iand, 1) := by decide +kernel
theorem d_Mo_bits_16 : decode prog_13_method_7_code 16 = .ok (.iadd, 1) := by decide +kernel
theorem d_Mo_bits_17 : decode prog_13_method_7_code 17 = .ok (.istore_n 1, 1) := by decide +kernel
theorem d_Mo_bits_18 : decode prog_13_method_7_code 18 = .ok (.iinc 2 1, 3) := by decide +kernel
theorem d_Mo_bits_21 : decode prog_13_method_7_code 21 = .ok (.goto (-17), 3) := by decide +kernel
theorem d_Mo_bits_7 : decode prog_13_method_7_code 7 = .ok (.if_icmp .ge 17, 3) := by decide +kernel
def B_Mo_bits_l4 (N : Nat) (a0 : Int32) (rec : Int32 → Int32 → Option (Int32)) (x1 : Int32) (x2 : Int32) : Option (Int32) :=
  if 16 ≤ x2 then
    (some x1)
  else
    (letv (x1 + ((a0 >>> (x2 &&& 31)) &&& 1)) fun v17 =>
    letv (x2 + 1) fun v18 =>
    rec v17 v18)
def L_Mo_bits_l4 (N : Nat) (a0 : Int32) : Nat → Int32 → Int32 → Option (Int32)
  | 0, _, _ => none
  | k + 1, x1, x2 => B_Mo_bits_l4 N a0 (L_Mo_bits_l4 N a0 k) x1 x2
set_option maxHeartbeats 4000000 in
set_option maxRecDepth 20000 in
theorem cL_Mo_bits_l4 (Z : ZX) {Y : YX} {post : Option Value → Mem → Prop} {N : Nat} {a0 : Int32} {σ : Mem} {Good : Int32 → Prop} (hR : ∀ (v : Int32), Good v → post (some (.int v)) σ) : ∀ (k : Nat) (x1 : Int32) (x2 : Int32) (res : Int32), L_Mo_bits_l4 N a0 k x1 x2 = some res → Good res → V (mkB Z) Y m_Mo_bits 0 (QP (mkB Z) Y nC 0 0 post) 0 0 nC σ 4 [(0, .int a0), (1, .int x1), (2, .int x2)] [] := by
  intro k
  induction k with
  | zero => intro x1 x2 res h; cases h
  | succ k ih =>
    intro x1 x2 res h hg
    replace h : B_Mo_bits_l4 N a0 (L_Mo_bits_l4 N a0 k) x1 x2 = some res := h
    unfold B_Mo_bits_l4 at h
    refine V.iload_n d_Mo_bits_4 rfl 2 rfl ?_
    refine V.bipush (v := 16) d_Mo_bits_5 (by decide) ?_
    refine V.icmp_ge (tgt := 24) d_Mo_bits_7 (by decide) (fun hc7 => ?_) (fun hc7 => ?_)
    · replace h := ite_t hc7 h
      refine V.iload_n d_Mo_bits_24 rfl 1 rfl ?_
      cases h
      exact V.iret rfl d_Mo_bits_25 (hR _ hg)
    · replace h := ite_f hc7 h
      refine V.iload_n d_Mo_bits_10 rfl 1 rfl ?_
      refine V.iload_n d_Mo_bits_11 rfl 0 rfl ?_
      refine V.iload_n d_Mo_bits_12 rfl 2 rfl ?_
      refine V.ishr d_Mo_bits_13 ?_
      refine V.iconst (v := 1) d_Mo_bits_14 (by decide) ?_
      refine V.iand d_Mo_bits_15 ?_
      refine V.iadd d_Mo_bits_16 ?_
      obtain ⟨v17, e_v17, h⟩ := letv_e h
      refine V.topI e_v17 ?_
      refine V.istore_n (lv' := [(1, .int v17), (0, .int a0), (2, .int x2)]) d_Mo_bits_17 rfl (by decide) rfl ?_
      obtain ⟨v18, e_v18, h⟩ := letv_e h
      refine V.iinc (v := v18) (lv' := [(2, .int v18), (1, .int v17), (0, .int a0)]) d_Mo_bits_18 2 rfl (by rw [e_v18]; rfl) (by decide) rfl ?_
      refine V.goto (tgt := 4) d_Mo_bits_21 (by decide) ?_
      exact V.pick [2, 1, 0] rfl (ih _ _ _ h hg)
def f_Mo_bits (N : Nat) (a0 : Int32) : Option (Int32) :=
  L_Mo_bits_l4 N a0 N 0 0
set_option maxHeartbeats 4000000 in
set_option maxRecDepth 20000 in
theorem c_Mo_bits (Z : ZX) {N : Nat} {σ : Mem} {a0 : Int32} {r : Int32} (h : f_Mo_bits N a0 = some r) : CI Z 0 m_Mo_bits [.int a0] σ r σ := by
  refine Ct.of (by decide +kernel) (Nat.le_of_ble_eq_true rfl) (fun Y => ?_)
  show V (mkB Z) Y m_Mo_bits 0 (QP (mkB Z) Y nC 0 0 (fun v t => v = some (.int r) ∧ t = σ)) 0 0 nC σ 0 [(0, .int a0)] []
  unfold f_Mo_bits at h
  refine V.iconst (v := 0) d_Mo_bits_0 (by decide) ?_
  refine V.istore_n (lv' := [(1, .int 0), (0, .int a0)]) d_Mo_bits_1 rfl (by decide) rfl ?_
  refine V.iconst (v := 0) d_Mo_bits_2 (by decide) ?_
  refine V.istore_n (lv' := [(2, .int 0), (1, .int 0), (0, .int a0)]) d_Mo_bits_3 rfl (by decide) rfl ?_
  refine V.pick [2, 1, 0] rfl (cL_Mo_bits_l4 Z (Good := fun z => z = _) (fun r4v he => ?_) N _ _ _ h rfl)
  · cases he
    exact ⟨rfl, rfl⟩
abbrev m_Mo_priceOf : MI := (⟨"ShadeTownModel", "priceOf", "(II)I"⟩, prog_13_method_64_code, 3, (Option.some Jvm.ClassFile.FieldType.int))
theorem d_Mo_priceOf_0 : decode prog_13_method_64_code 0 = .ok (.aload_n 0, 1) := by decide +kernel
theorem d_Mo_priceOf_1 : decode prog_13_method_64_code 1 = .ok (.iload_n 2, 1) := by decide +kernel
theorem d_Mo_priceOf_2 : decode prog_13_method_64_code 2 = .ok (.invokevirtual 315, 3) := by decide +kernel
theorem d_Mo_priceOf_5 : decode prog_13_method_64_code 5 = .ok (.aload_n 0, 1) := by decide +kernel
theorem d_Mo_priceOf_6 : decode prog_13_method_64_code 6 = .ok (.getfield 68, 3) := by decide +kernel
theorem d_Mo_priceOf_9 : decode prog_13_method_64_code 9 = .ok (.iconst 2, 1) := by decide +kernel
theorem d_Mo_priceOf_10 : decode prog_13_method_64_code 10 = .ok (.iload_n 1, 1) := by decide +kernel
theorem d_Mo_priceOf_11 : decode prog_13_method_64_code 11 = .ok (.bipush 12, 2) := by decide +kernel
theorem d_Mo_priceOf_13 : decode prog_13_method_64_code 13 = .ok (.irem, 1) := by decide +kernel
theorem d_Mo_priceOf_14 : decode prog_13_method_64_code 14 = .ok (.iastore, 1) := by decide +kernel
theorem d_Mo_priceOf_15 : decode prog_13_method_64_code 15 = .ok (.aload_n 0, 1) := by decide +kernel
theorem d_Mo_priceOf_16 : decode prog_13_method_64_code 16 = .ok (.getfield 68, 3) := by decide +kernel
theorem d_Mo_priceOf_19 : decode prog_13_method_64_code 19 = .ok (.iconst 3, 1) := by decide +kernel
theorem d_Mo_priceOf_20 : decode prog_13_method_64_code 20 = .ok (.iload_n 1, 1) := by decide +kernel
theorem d_Mo_priceOf_21 : decode prog_13_method_64_code 21 = .ok (.bipush 12, 2) := by decide +kernel
theorem d_Mo_priceOf_23 : decode prog_13_method_64_code 23 = .ok (.idiv, 1) := by decide +kernel
theorem d_Mo_priceOf_24 : decode prog_13_method_64_code 24 = .ok (.iastore, 1) := by decide +kernel
theorem d_Mo_priceOf_25 : decode prog_13_method_64_code 25 = .ok (.aload_n 0, 1) := by decide +kernel
theorem d_Mo_priceOf_26 : decode prog_13_method_64_code 26 = .ok (.getfield 68, 3) := by decide +kernel
theorem d_Mo_priceOf_29 : decode prog_13_method_64_code 29 = .ok (.iconst 4, 1) := by decide +kernel
theorem d_Mo_priceOf_30 : decode prog_13_method_64_code 30 = .ok (.aload_n 0, 1) := by decide +kernel
theorem d_Mo_priceOf_31 : decode prog_13_method_64_code 31 = .ok (.iload_n 2, 1) := by decide +kernel
theorem d_Mo_priceOf_32 : decode prog_13_method_64_code 32 = .ok (.iload_n 1, 1) := by decide +kernel
theorem d_Mo_priceOf_33 : decode prog_13_method_64_code 33 = .ok (.invokevirtual 373, 3) := by decide +kernel
theorem d_Mo_priceOf_36 : decode prog_13_method_64_code 36 = .ok (.invokestatic 376, 3) := by decide +kernel
theorem k_Mo_bits : MOk m_Mo_bits 1 ∧ Cond.static m_Mo_bits.1 ∈ tblG := ⟨⟨atG 1812 (by decide +kernel) rfl, atG 122 (by decide +kernel) rfl, ⟨by decide, by decide⟩, by decide +kernel, by decide⟩, atG 1811 (by decide +kernel) rfl⟩
theorem lk_Mo_376 : Cond.methodLink "ShadeTownModel" 376 ⟨"ShadeTownModel", "bits", "(I)I"⟩ ∈ tblG := atG 1810 (by decide +kernel) rfl
theorem d_Mo_priceOf_39 : decode prog_13_method_64_code 39 = .ok (.iastore, 1) := by decide +kernel
theorem d_Mo_priceOf_40 : decode prog_13_method_64_code 40 = .ok (.aload_n 0, 1) := by decide +kernel
theorem d_Mo_priceOf_41 : decode prog_13_method_64_code 41 = .ok (.bipush 112, 2) := by decide +kernel
theorem d_Mo_priceOf_43 : decode prog_13_method_64_code 43 = .ok (.iconst 0, 1) := by decide +kernel
theorem d_Mo_priceOf_44 : decode prog_13_method_64_code 44 = .ok (.bipush 99, 2) := by decide +kernel
theorem d_Mo_priceOf_46 : decode prog_13_method_64_code 46 = .ok (.invokevirtual 318, 3) := by decide +kernel
theorem d_Mo_priceOf_49 : decode prog_13_method_64_code 49 = .ok (.ireturn, 1) := by decide +kernel
def f_Mo_priceOf (N : Nat) (σ : Mem) (a1 : Int32) (a2 : Int32) : Option (Int32 × Mem) :=
  bnd1 (f_Mo_feels N σ a2) fun σ2 =>
  letv (sI σ2 85 2 (a1 - a1 / 12 * 12)) fun σ14 =>
  letv (sI σ14 85 3 (a1 / 12)) fun σ24 =>
  bnd1 (f_Mo_whoOn σ24 a2 a1) fun r33 =>
  bnd1 (f_Mo_bits N r33) fun r36 =>
  letv (sI σ24 85 4 r36) fun σ39 =>
  bnd2 (f_Mo_byLaw N σ39 112 0 99) fun r46 σ46 =>
  some (r46, σ46)
set_option maxHeartbeats 4000000 in
set_option maxRecDepth 20000 in
theorem c_Mo_priceOf (Z : ZX) {N : Nat} {σ : Mem} {a1 : Int32} {a2 : Int32} {r : Int32} {σ' : Mem} (h : f_Mo_priceOf N σ a1 a2 = some (r, σ')) : CI Z 3 m_Mo_priceOf [rf Z 65, .int a1, .int a2] σ r σ' := by
  refine Ct.of (by decide +kernel) (Nat.le_of_ble_eq_true rfl) (fun Y => ?_)
  show V (mkB Z) Y m_Mo_priceOf 3 (QP (mkB Z) Y nC 0 0 (fun v t => v = some (.int r) ∧ t = σ')) 0 0 nC σ 0 [(0, rf Z 65), (1, .int a1), (2, .int a2)] []
  unfold f_Mo_priceOf at h
  refine V.aload_n d_Mo_priceOf_0 rfl 0 rfl ?_
  refine V.iload_n d_Mo_priceOf_1 rfl 2 rfl ?_
  obtain ⟨σ2, h1, h⟩ := bnd1_e h
  refine V.vN (as := [.int a2]) (st := []) (c_Mo_feels Z h1) k_Mo_feels lk_Mo_315 (by decide) rfl (by decide) ly_65 ok_Mo.1 rfl (Nat.le_of_ble_eq_true rfl) d_Mo_priceOf_2 ?_
  refine V.aload_n d_Mo_priceOf_5 rfl 0 rfl ?_
  refine V.getR (r := 85) ok_Mo fl_Mo_68 (by decide) (by decide) ly_65 rfl d_Mo_priceOf_6 ?_
  refine V.iconst (v := 2) d_Mo_priceOf_9 (by decide) ?_
  refine V.iload_n d_Mo_priceOf_10 rfl 1 rfl ?_
  refine V.bipush (v := 12) d_Mo_priceOf_11 (by decide) ?_
  refine V.irem d_Mo_priceOf_13 (by decide) ?_
  obtain ⟨σ14, e_σ14, h⟩ := letv_e h
  refine V.wa (j := 2) (by decide) ly_85 (inb_e (by decide)) (by decide) d_Mo_priceOf_14 e_σ14 ?_
  refine V.aload_n d_Mo_priceOf_15 rfl 0 rfl ?_
  refine V.getR (r := 85) ok_Mo fl_Mo_68 (by decide) (by decide) ly_65 rfl d_Mo_priceOf_16 ?_
  refine V.iconst (v := 3) d_Mo_priceOf_19 (by decide) ?_
  refine V.iload_n d_Mo_priceOf_20 rfl 1 rfl ?_
  refine V.bipush (v := 12) d_Mo_priceOf_21 (by decide) ?_
  refine V.idiv d_Mo_priceOf_23 (by decide) ?_
  obtain ⟨σ24, e_σ24, h⟩ := letv_e h
  refine V.wa (j := 3) (by decide) ly_85 (inb_e (by decide)) (by decide) d_Mo_priceOf_24 e_σ24 ?_
  refine V.aload_n d_Mo_priceOf_25 rfl 0 rfl ?_
  refine V.getR (r := 85) ok_Mo fl_Mo_68 (by decide) (by decide) ly_65 rfl d_Mo_priceOf_26 ?_
  refine V.iconst (v := 4) d_Mo_priceOf_29 (by decide) ?_
  refine V.aload_n d_Mo_priceOf_30 rfl 0 rfl ?_
  refine V.iload_n d_Mo_priceOf_31 rfl 2 rfl ?_
  refine V.iload_n d_Mo_priceOf_32 rfl 1 rfl ?_
  obtain ⟨r33, h1, h⟩ := bnd1_e h
  refine V.vI (as := [.int a2, .int a1]) (st := [.int 4, rf Z 85]) (c_Mo_whoOn Z h1) k_Mo_whoOn lk_Mo_373 (by decide) rfl (by decide) ly_65 ok_Mo.1 rfl (Nat.le_of_ble_eq_true rfl) d_Mo_priceOf_33 ?_
  obtain ⟨r36, h1, h⟩ := bnd1_e h
  refine V.sI (as := [.int r33]) (st := [.int 4, rf Z 85]) (c_Mo_bits Z h1) k_Mo_bits lk_Mo_376 (by decide) rfl rfl (Nat.le_of_ble_eq_true rfl) d_Mo_priceOf_36 ?_
  obtain ⟨σ39, e_σ39, h⟩ := letv_e h
  refine V.wa (j := 4) (by decide) ly_85 (inb_e (by decide)) (by decide) d_Mo_priceOf_39 e_σ39 ?_
  refine V.aload_n d_Mo_priceOf_40 rfl 0 rfl ?_
  refine V.bipush (v := 112) d_Mo_priceOf_41 (by decide) ?_
  refine V.iconst (v := 0) d_Mo_priceOf_43 (by decide) ?_
  refine V.bipush (v := 99) d_Mo_priceOf_44 (by decide) ?_
  obtain ⟨r46, σ46, h1, h⟩ := bnd2_e h
  refine V.vI (as := [.int 112, .int 0, .int 99]) (st := []) (c_Mo_byLaw Z h1) k_Mo_byLaw lk_Mo_318 (by decide) rfl (by decide) ly_65 ok_Mo.1 rfl (Nat.le_of_ble_eq_true rfl) d_Mo_priceOf_46 ?_
  cases h
  exact V.iret rfl d_Mo_priceOf_49 ⟨rfl, rfl⟩
abbrev m_Mo_price : MI := (⟨"ShadeTownModel", "price", "(III)I"⟩, prog_13_method_65_code, 4, (Option.some Jvm.ClassFile.FieldType.int))
theorem d_Mo_price_0 : decode prog_13_method_65_code 0 = .ok (.iload_n 1, 1) := by decide +kernel
theorem d_Mo_price_1 : decode prog_13_method_65_code 1 = .ok (.iload_n 2, 1) := by decide +kernel
theorem d_Mo_price_2 : decode prog_13_method_65_code 2 = .ok (.invokestatic 185, 3) := by decide +kernel
theorem d_Mo_price_15 : decode prog_13_method_65_code 15 = .ok (.iconst (-1), 1) := by decide +kernel
theorem d_Mo_price_16 : decode prog_13_method_65_code 16 = .ok (.ireturn, 1) := by decide +kernel
theorem d_Mo_price_8 : decode prog_13_method_65_code 8 = .ok (.iload_n 3, 1) := by decide +kernel
theorem d_Mo_price_9 : decode prog_13_method_65_code 9 = .ok (.invokestatic 321, 3) := by decide +kernel
theorem d_Mo_price_17 : decode prog_13_method_65_code 17 = .ok (.aload_n 0, 1) := by decide +kernel
theorem d_Mo_price_18 : decode prog_13_method_65_code 18 = .ok (.invokevirtual 370, 3) := by decide +kernel
theorem d_Mo_price_21 : decode prog_13_method_65_code 21 = .ok (.aload_n 0, 1) := by decide +kernel
theorem d_Mo_price_22 : decode prog_13_method_65_code 22 = .ok (.bipush 12, 2) := by decide +kernel
theorem d_Mo_price_24 : decode prog_13_method_65_code 24 = .ok (.iload_n 2, 1) := by decide +kernel
theorem d_Mo_price_25 : decode prog_13_method_65_code 25 = .ok (.imul, 1) := by decide +kernel
theorem d_Mo_price_26 : decode prog_13_method_65_code 26 = .ok (.iload_n 1, 1) := by decide +kernel
theorem d_Mo_price_27 : decode prog_13_method_65_code 27 = .ok (.iadd, 1) := by decide +kernel
theorem d_Mo_price_28 : decode prog_13_method_65_code 28 = .ok (.iload_n 3, 1) := by decide +kernel
theorem d_Mo_price_29 : decode prog_13_method_65_code 29 = .ok (.invokevirtual 379, 3) := by decide +kernel
theorem k_Mo_priceOf : MOk m_Mo_priceOf 2 ∧ IOk m_Mo_priceOf := ⟨⟨atG 1809 (by decide +kernel) rfl, atG 122 (by decide +kernel) rfl, ⟨by decide, by decide⟩, by decide +kernel, by decide⟩, atG 1808 (by decide +kernel) rfl, atG 80 (by decide +kernel) rfl⟩
theorem lk_Mo_379 : Cond.methodLink "ShadeTownModel" 379 ⟨"ShadeTownModel", "priceOf", "(II)I"⟩ ∈ tblG := atG 1806 (by decide +kernel) rfl
theorem d_Mo_price_32 : decode prog_13_method_65_code 32 = .ok (.ireturn, 1) := by decide +kernel
theorem d_Mo_price_12 : decode prog_13_method_65_code 12 = .ok (.ifCond .ne 5, 3) := by decide +kernel
theorem d_Mo_price_5 : decode prog_13_method_65_code 5 = .ok (.ifCond .eq 10, 3) := by decide +kernel
def f_Mo_price (N : Nat) (σ : Mem) (a1 : Int32) (a2 : Int32) (a3 : Int32) : Option (Int32 × Mem) :=
  bnd1 (f_Mo_isIn a1 a2) fun r2 =>
  if r2 = 0 then
    (some ((-1), σ))
  else
    (bnd1 (f_Mo_isHour a3) fun r9 =>
    if r9 = 0 then
      (some ((-1), σ))
    else
      (bnd1 (f_Mo_laysDay N σ) fun σ18 =>
      bnd2 (f_Mo_priceOf N σ18 ((12 * a2) + a1) a3) fun r29 σ29 =>
      some (r29, σ29)))
set_option maxHeartbeats 4000000 in
set_option maxRecDepth 20000 in
theorem c_Mo_price (Z : ZX) {N : Nat} {σ : Mem} {a1 : Int32} {a2 : Int32} {a3 : Int32} {r : Int32} {σ' : Mem} (h : f_Mo_price N σ a1 a2 a3 = some (r, σ')) : CI Z 6 m_Mo_price [rf Z 65, .int a1, .int a2, .int a3] σ r σ' := by
  refine Ct.of (by decide +kernel) (Nat.le_of_ble_eq_true rfl) (fun Y => ?_)
  show V (mkB Z) Y m_Mo_price 6 (QP (mkB Z) Y nC 0 0 (fun v t => v = some (.int r) ∧ t = σ')) 0 0 nC σ 0 [(0, rf Z 65), (1, .int a1), (2, .int a2), (3, .int a3)] []
  unfold f_Mo_price at h
  refine V.iload_n d_Mo_price_0 rfl 1 rfl ?_
  refine V.iload_n d_Mo_price_1 rfl 2 rfl ?_
  obtain ⟨r2, h1, h⟩ := bnd1_e h
  refine V.sI (as := [.int a1, .int a2]) (st := []) (c_Mo_isIn Z h1) k_Mo_isIn lk_Mo_185 (by decide) rfl rfl (Nat.le_of_ble_eq_true rfl) d_Mo_price_2 ?_
  refine V.if_eq (tgt := 15) d_Mo_price_5 (by decide) (fun hc5 => ?_) (fun hc5 => ?_)
  · replace h := ite_t hc5 h
    refine V.iconst (v := (-1)) d_Mo_price_15 (by decide) ?_
    cases h
    exact V.iret rfl d_Mo_price_16 ⟨rfl, rfl⟩
  · replace h := ite_f hc5 h
    refine V.iload_n d_Mo_price_8 rfl 3 rfl ?_
    obtain ⟨r9, h1, h⟩ := bnd1_e h
    refine V.sI (as := [.int a3]) (st := []) (c_Mo_isHour Z h1) k_Mo_isHour lk_Mo_321 (by decide) rfl rfl (Nat.le_of_ble_eq_true rfl) d_Mo_price_9 ?_
    refine V.if_ne (tgt := 17) d_Mo_price_12 (by decide) (fun hc12 => ?_) (fun hc12 => ?_)
    · replace h := ite_f hc12 h
      refine V.aload_n d_Mo_price_17 rfl 0 rfl ?_
      obtain ⟨σ18, h1, h⟩ := bnd1_e h
      refine V.vN (as := []) (st := []) (c_Mo_laysDay Z h1) k_Mo_laysDay lk_Mo_370 (by decide) rfl (by decide) ly_65 ok_Mo.1 rfl (Nat.le_of_ble_eq_true rfl) d_Mo_price_18 ?_
      refine V.aload_n d_Mo_price_21 rfl 0 rfl ?_
      refine V.bipush (v := 12) d_Mo_price_22 (by decide) ?_
      refine V.iload_n d_Mo_price_24 rfl 2 rfl ?_
      refine V.imul d_Mo_price_25 ?_
      refine V.iload_n d_Mo_price_26 rfl 1 rfl ?_
      refine V.iadd d_Mo_price_27 ?_
      refine V.iload_n d_Mo_price_28 rfl 3 rfl ?_
      obtain ⟨r29, σ29, h1, h⟩ := bnd2_e h
      refine V.vI (as := [.int ((12 * a2) + a1), .int a3]) (st := []) (c_Mo_priceOf Z h1) k_Mo_priceOf lk_Mo_379 (by decide) rfl (by decide) ly_65 ok_Mo.1 rfl (Nat.le_of_ble_eq_true rfl) d_Mo_price_29 ?_
      cases h
      exact V.iret rfl d_Mo_price_32 ⟨rfl, rfl⟩
    · replace h := ite_t hc12 h
      refine V.iconst (v := (-1)) d_Mo_price_15 (by decide) ?_
      cases h
      exact V.iret rfl d_Mo_price_16 ⟨rfl, rfl⟩
abbrev m_Mo_cast : MI := (⟨"ShadeTownModel", "cast", "(II)I"⟩, prog_13_method_66_code, 5, (Option.some Jvm.ClassFile.FieldType.int))
theorem d_Mo_cast_0 : decode prog_13_method_66_code 0 = .ok (.aload_n 0, 1) := by decide +kernel
theorem d_Mo_cast_1 : decode prog_13_method_66_code 1 = .ok (.iload_n 1, 1) := by decide +kernel
theorem d_Mo_cast_2 : decode prog_13_method_66_code 2 = .ok (.invokevirtual 170, 3) := by decide +kernel
theorem d_Mo_cast_18 : decode prog_13_method_66_code 18 = .ok (.iconst (-1), 1) := by decide +kernel
theorem d_Mo_cast_19 : decode prog_13_method_66_code 19 = .ok (.ireturn, 1) := by decide +kernel
theorem d_Mo_cast_8 : decode prog_13_method_66_code 8 = .ok (.iload_n 2, 1) := by decide +kernel
theorem d_Mo_cast_9 : decode prog_13_method_66_code 9 = .ok (.iconst 0, 1) := by decide +kernel
theorem d_Mo_cast_10 : decode prog_13_method_66_code 10 = .ok (.bipush 24, 2) := by decide +kernel
theorem d_Mo_cast_12 : decode prog_13_method_66_code 12 = .ok (.invokestatic 188, 3) := by decide +kernel
theorem d_Mo_cast_20 : decode prog_13_method_66_code 20 = .ok (.aload_n 0, 1) := by decide +kernel
theorem d_Mo_cast_21 : decode prog_13_method_66_code 21 = .ok (.invokevirtual 370, 3) := by decide +kernel
theorem d_Mo_cast_24 : decode prog_13_method_66_code 24 = .ok (.iconst 0, 1) := by decide +kernel
theorem d_Mo_cast_25 : decode prog_13_method_66_code 25 = .ok (.istore_n 3, 1) := by decide +kernel
theorem d_Mo_cast_26 : decode prog_13_method_66_code 26 = .ok (.iconst 0, 1) := by decide +kernel
theorem d_Mo_cast_27 : decode prog_13_method_66_code 27 = .ok (.istore 4, 2) := by decide +kernel
theorem d_Mo_cast_29 : decode prog_13_method_66_code 29 = .ok (.iload 4, 2) := by decide +kernel
theorem d_Mo_cast_31 : decode prog_13_method_66_code 31 = .ok (.sipush 3456, 3) := by decide +kernel
theorem d_Mo_cast_73 : decode prog_13_method_66_code 73 = .ok (.iload_n 3, 1) := by decide +kernel
theorem d_Mo_cast_74 : decode prog_13_method_66_code 74 = .ok (.ireturn, 1) := by decide +kernel
theorem d_Mo_cast_37 : decode prog_13_method_66_code 37 = .ok (.iload_n 2, 1) := by decide +kernel
theorem d_Mo_cast_38 : decode prog_13_method_66_code 38 = .ok (.bipush 24, 2) := by decide +kernel
theorem d_Mo_cast_43 : decode prog_13_method_66_code 43 = .ok (.iload 4, 2) := by decide +kernel
theorem d_Mo_cast_45 : decode prog_13_method_66_code 45 = .ok (.sipush 144, 3) := by decide +kernel
theorem d_Mo_cast_48 : decode prog_13_method_66_code 48 = .ok (.idiv, 1) := by decide +kernel
theorem d_Mo_cast_49 : decode prog_13_method_66_code 49 = .ok (.iload_n 2, 1) := by decide +kernel
theorem d_Mo_cast_50 : decode prog_13_method_66_code 50 = .ok (.if_icmp .ne 17, 3) := by decide +kernel
theorem d_Mo_cast_40 : decode prog_13_method_66_code 40 = .ok (.if_icmp .eq 13, 3) := by decide +kernel
theorem d_Mo_cast_53 : decode prog_13_method_66_code 53 = .ok (.iload_n 3, 1) := by decide +kernel
theorem d_Mo_cast_54 : decode prog_13_method_66_code 54 = .ok (.aload_n 0, 1) := by decide +kernel
theorem d_Mo_cast_55 : decode prog_13_method_66_code 55 = .ok (.getfield 71, 3) := by decide +kernel
theorem d_Mo_cast_58 : decode prog_13_method_66_code 58 = .ok (.iload 4, 2) := by decide +kernel
theorem d_Mo_cast_60 : decode prog_13_method_66_code 60 = .ok (.iaload, 1) := by decide +kernel
theorem d_Mo_cast_61 : decode prog_13_method_66_code 61 = .ok (.iload_n 1, 1) := by decide +kernel
theorem d_Mo_cast_62 : decode prog_13_method_66_code 62 = .ok (.ishr, 1) := by decide +kernel
theorem d_Mo_cast_63 : decode prog_13_method_66_code 63 = .ok (.iconst 1, 1) := by decide +kernel
theorem d_Mo_cast_64 : decode prog_13_method_66_code 64 = .ok (.iand, 1) := by decide +kernel
theorem d_Mo_cast_65 : decode prog_13_method_66_code 65 = .ok (.iadd, 1) := by decide +kernel
theorem d_Mo_cast_66 : decode prog_13_method_66_code 66 = .ok (.istore_n 3, 1) := by decide +kernel
theorem d_Mo_cast_67 : decode prog_13_method_66_code 67 = .ok (.iinc 4 1, 3) := by decide +kernel
theorem d_Mo_cast_70 : decode prog_13_method_66_code 70 = .ok (.goto (-41), 3) := by decide +kernel
theorem d_Mo_cast_34 : decode prog_13_method_66_code 34 = .ok (.if_icmp .ge 39, 3) := by decide +kernel
theorem d_Mo_cast_15 : decode prog_13_method_66_code 15 = .ok (.ifCond .ne 5, 3) := by decide +kernel
theorem d_Mo_cast_5 : decode prog_13_method_66_code 5 = .ok (.ifCond .eq 13, 3) := by decide +kernel
def B_Mo_cast_l29 (N : Nat) (a1 : Int32) (a2 : Int32) (rec : Int32 → Int32 → Mem → Option (Int32 × Mem)) (x3 : Int32) (x4 : Int32) (σ : Mem) : Option (Int32 × Mem) :=
  if 3456 ≤ x4 then
    (some (x3, σ))
  else
    (bnd1 ((
      bnd1 ((
        if a2 = 24 then
          (some 0)
        else
          (if (x4 / 144) = a2 then
            (some 0)
          else
            (some 1))) : Option (Nat)) fun t40b =>
      if t40b = 0 then
        (grd (inb x4 3456) <|
        letv (x3 + (((mI σ 86 (x4.toNatClampNeg)) >>> (a1 &&& 31)) &&& 1)) fun v66 =>
        some v66)
      else
      (some x3)) : Option (Int32)) fun y40_3 =>
    letv (x4 + 1) fun v67 =>
    rec y40_3 v67 σ)
def L_Mo_cast_l29 (N : Nat) (a1 : Int32) (a2 : Int32) : Nat → Int32 → Int32 → Mem → Option (Int32 × Mem)
  | 0, _, _, _ => none
  | k + 1, x3, x4, σ => B_Mo_cast_l29 N a1 a2 (L_Mo_cast_l29 N a1 a2 k) x3 x4 σ
set_option maxHeartbeats 4000000 in
set_option maxRecDepth 20000 in
theorem cL_Mo_cast_l29 (Z : ZX) {Y : YX} {post : Option Value → Mem → Prop} {N : Nat} {a1 : Int32} {a2 : Int32} {Good : Int32 × Mem → Prop} (hR : ∀ (v : Int32) (σr : Mem), Good (v, σr) → post (some (.int v)) σr) : ∀ (k : Nat) (x3 : Int32) (x4 : Int32) (σ : Mem) (res : Int32 × Mem), L_Mo_cast_l29 N a1 a2 k x3 x4 σ = some res → Good res → V (mkB Z) Y m_Mo_cast 6 (QP (mkB Z) Y nC 0 0 post) 0 0 nC σ 29 [(0, rf Z 65), (1, .int a1), (2, .int a2), (3, .int x3), (4, .int x4)] [] := by
  intro k
  induction k with
  | zero => intro x3 x4 σ res h; cases h
  | succ k ih =>
    intro x3 x4 σ res h hg
    replace h : B_Mo_cast_l29 N a1 a2 (L_Mo_cast_l29 N a1 a2 k) x3 x4 σ = some res := h
    unfold B_Mo_cast_l29 at h
    refine V.iload d_Mo_cast_29 4 rfl ?_
    refine V.sipush (v := 3456) d_Mo_cast_31 (by decide) ?_
    refine V.icmp_ge (tgt := 73) d_Mo_cast_34 (by decide) (fun hc34 => ?_) (fun hc34 => ?_)
    · replace h := ite_t hc34 h
      refine V.iload_n d_Mo_cast_73 rfl 3 rfl ?_
      cases h
      exact V.iret rfl d_Mo_cast_74 (hR _ _ hg)
    · replace h := ite_f hc34 h
      refine V.iload_n d_Mo_cast_37 rfl 2 rfl ?_
      refine V.bipush (v := 24) d_Mo_cast_38 (by decide) ?_
      obtain ⟨s40, h1, h⟩ := bnd1_e h
      have J40_67 : ∀ (y40_3 : Int32), s40 = y40_3 → V (mkB Z) Y m_Mo_cast 6 (QP (mkB Z) Y nC 0 0 post) 0 0 nC σ 67 [(0, rf Z 65), (1, .int a1), (2, .int a2), (3, .int y40_3), (4, .int x4)] [] := by
        intro y40_3 he
        rw [he] at h
        obtain ⟨v67, e_v67, h⟩ := letv_e h
        refine V.iinc (v := v67) (lv' := [(4, .int v67), (0, rf Z 65), (1, .int a1), (2, .int a2), (3, .int y40_3)]) d_Mo_cast_67 4 rfl (by rw [e_v67]; rfl) (by decide) rfl ?_
        refine V.goto (tgt := 29) d_Mo_cast_70 (by decide) ?_
        exact V.pick [1, 2, 3, 4, 0] rfl (ih _ _ _ _ h hg)
      replace h := h1
      obtain ⟨s40b, h1, h⟩ := bnd1_e h
      have J40b_53 : s40b = 0 → V (mkB Z) Y m_Mo_cast 6 (QP (mkB Z) Y nC 0 0 post) 0 0 nC σ 53 [(0, rf Z 65), (1, .int a1), (2, .int a2), (3, .int x3), (4, .int x4)] [] := by
        intro he
        rw [he] at h
        replace h := ite_t rfl h
        refine V.iload_n d_Mo_cast_53 rfl 3 rfl ?_
        refine V.aload_n d_Mo_cast_54 rfl 0 rfl ?_
        refine V.getR (r := 86) ok_Mo fl_Mo_71 (by decide) (by decide) ly_65 rfl d_Mo_cast_55 ?_
        refine V.iload d_Mo_cast_58 4 rfl ?_
        obtain ⟨gq, h⟩ := grd_e h
        refine V.ra (by decide) ly_86 (inb_e gq) rfl d_Mo_cast_60 ?_
        refine V.iload_n d_Mo_cast_61 rfl 1 rfl ?_
        refine V.ishr d_Mo_cast_62 ?_
        refine V.iconst (v := 1) d_Mo_cast_63 (by decide) ?_
        refine V.iand d_Mo_cast_64 ?_
        refine V.iadd d_Mo_cast_65 ?_
        obtain ⟨v66, e_v66, h⟩ := letv_e h
        refine V.topI e_v66 ?_
        refine V.istore_n (lv' := [(3, .int v66), (0, rf Z 65), (1, .int a1), (2, .int a2), (4, .int x4)]) d_Mo_cast_66 rfl (by decide) rfl ?_
        exact V.pick [1, 2, 3, 0, 4] rfl (J40_67 _ (Option.some.inj h).symm)
      have J40b_67 : s40b = 1 → V (mkB Z) Y m_Mo_cast 6 (QP (mkB Z) Y nC 0 0 post) 0 0 nC σ 67 [(0, rf Z 65), (1, .int a1), (2, .int a2), (3, .int x3), (4, .int x4)] [] := by
        intro he
        rw [he] at h
        replace h := ite_f (by decide) h
        exact V.pick [0, 1, 2, 3, 4] rfl (J40_67 _ (Option.some.inj h).symm)
      replace h := h1
      refine V.icmp_eq (tgt := 53) d_Mo_cast_40 (by decide) (fun hc40 => ?_) (fun hc40 => ?_)
      · replace h := ite_t hc40 h
        exact V.pick [0, 1, 2, 3, 4] rfl (J40b_53 (Option.some.inj h).symm)
      · replace h := ite_f hc40 h
        refine V.iload d_Mo_cast_43 4 rfl ?_
        refine V.sipush (v := 144) d_Mo_cast_45 (by decide) ?_
        refine V.idiv d_Mo_cast_48 (by decide) ?_
        refine V.iload_n d_Mo_cast_49 rfl 2 rfl ?_
        refine V.icmp_ne (tgt := 67) d_Mo_cast_50 (by decide) (fun hc50 => ?_) (fun hc50 => ?_)
        · replace h := ite_f hc50 h
          exact V.pick [0, 1, 2, 3, 4] rfl (J40b_67 (Option.some.inj h).symm)
        · replace h := ite_t hc50 h
          exact V.pick [0, 1, 2, 3, 4] rfl (J40b_53 (Option.some.inj h).symm)
def f_Mo_cast (N : Nat) (σ : Mem) (a1 : Int32) (a2 : Int32) : Option (Int32 × Mem) :=
  bnd1 (f_Mo_isCaster σ a1) fun r2 =>
  if r2 = 0 then
    (some ((-1), σ))
  else
    (bnd1 (f_Mo_in a2 0 24) fun r12 =>
    if r12 = 0 then
      (some ((-1), σ))
    else
      (bnd1 (f_Mo_laysDay N σ) fun σ21 =>
      L_Mo_cast_l29 N a1 a2 N 0 0 σ21))
set_option maxHeartbeats 4000000 in
set_option maxRecDepth 20000 in
theorem c_Mo_cast (Z : ZX) {N : Nat} {σ : Mem} {a1 : Int32} {a2 : Int32} {r : Int32} {σ' : Mem} (h : f_Mo_cast N σ a1 a2 = some (r, σ')) : CI Z 6 m_Mo_cast [rf Z 65, .int a1, .int a2] σ r σ' := by
  refine Ct.of (by decide +kernel) (Nat.le_of_ble_eq_true rfl) (fun Y => ?_)
  show V (mkB Z) Y m_Mo_cast 6 (QP (mkB Z) Y nC 0 0 (fun v t => v = some (.int r) ∧ t = σ')) 0 0 nC σ 0 [(0, rf Z 65), (1, .int a1), (2, .int a2)] []
  unfold f_Mo_cast at h
  refine V.aload_n d_Mo_cast_0 rfl 0 rfl ?_
  refine V.iload_n d_Mo_cast_1 rfl 1 rfl ?_
  obtain ⟨r2, h1, h⟩ := bnd1_e h
  refine V.vI (as := [.int a1]) (st := []) (c_Mo_isCaster Z h1) k_Mo_isCaster lk_Mo_170 (by decide) rfl (by decide) ly_65 ok_Mo.1 rfl (Nat.le_of_ble_eq_true rfl) d_Mo_cast_2 ?_
  refine V.if_eq (tgt := 18) d_Mo_cast_5 (by decide) (fun hc5 => ?_) (fun hc5 => ?_)
  · replace h := ite_t hc5 h
    refine V.iconst (v := (-1)) d_Mo_cast_18 (by decide) ?_
    cases h
    exact V.iret rfl d_Mo_cast_19 ⟨rfl, rfl⟩
  · replace h := ite_f hc5 h
    refine V.iload_n d_Mo_cast_8 rfl 2 rfl ?_
    refine V.iconst (v := 0) d_Mo_cast_9 (by decide) ?_
    refine V.bipush (v := 24) d_Mo_cast_10 (by decide) ?_
    obtain ⟨r12, h1, h⟩ := bnd1_e h
    refine V.sI (as := [.int a2, .int 0, .int 24]) (st := []) (c_Mo_in Z h1) k_Mo_in lk_Mo_188 (by decide) rfl rfl (Nat.le_of_ble_eq_true rfl) d_Mo_cast_12 ?_
    refine V.if_ne (tgt := 20) d_Mo_cast_15 (by decide) (fun hc15 => ?_) (fun hc15 => ?_)
    · replace h := ite_f hc15 h
      refine V.aload_n d_Mo_cast_20 rfl 0 rfl ?_
      obtain ⟨σ21, h1, h⟩ := bnd1_e h
      refine V.vN (as := []) (st := []) (c_Mo_laysDay Z h1) k_Mo_laysDay lk_Mo_370 (by decide) rfl (by decide) ly_65 ok_Mo.1 rfl (Nat.le_of_ble_eq_true rfl) d_Mo_cast_21 ?_
      refine V.iconst (v := 0) d_Mo_cast_24 (by decide) ?_
      refine V.istore_n (lv' := [(3, .int 0), (0, rf Z 65), (1, .int a1), (2, .int a2)]) d_Mo_cast_25 rfl (by decide) rfl ?_
      refine V.iconst (v := 0) d_Mo_cast_26 (by decide) ?_
      refine V.istore (lv' := [(4, .int 0), (3, .int 0), (0, rf Z 65), (1, .int a1), (2, .int a2)]) d_Mo_cast_27 (by decide) rfl ?_
      refine V.pick [2, 3, 4, 1, 0] rfl (cL_Mo_cast_l29 Z (Good := fun z => z = _) (fun r29v r29m he => ?_) N _ _ _ _ h rfl)
      · cases he
        exact ⟨rfl, rfl⟩
    · replace h := ite_t hc15 h
      refine V.iconst (v := (-1)) d_Mo_cast_18 (by decide) ?_
      cases h
      exact V.iret rfl d_Mo_cast_19 ⟨rfl, rfl⟩
abbrev m_Mo_ofOwner : MI := (⟨"ShadeTownModel", "ofOwner", "(II)I"⟩, prog_13_method_68_code, 5, (Option.some Jvm.ClassFile.FieldType.int))
theorem d_Mo_ofOwner_0 : decode prog_13_method_68_code 0 = .ok (.iconst 0, 1) := by decide +kernel
theorem d_Mo_ofOwner_1 : decode prog_13_method_68_code 1 = .ok (.istore_n 3, 1) := by decide +kernel
theorem d_Mo_ofOwner_2 : decode prog_13_method_68_code 2 = .ok (.iconst 0, 1) := by decide +kernel
theorem d_Mo_ofOwner_3 : decode prog_13_method_68_code 3 = .ok (.istore 4, 2) := by decide +kernel
theorem d_Mo_ofOwner_5 : decode prog_13_method_68_code 5 = .ok (.iload 4, 2) := by decide +kernel
theorem d_Mo_ofOwner_7 : decode prog_13_method_68_code 7 = .ok (.aload_n 0, 1) := by decide +kernel
theorem d_Mo_ofOwner_8 : decode prog_13_method_68_code 8 = .ok (.getfield 167, 3) := by decide +kernel
theorem d_Mo_ofOwner_48 : decode prog_13_method_68_code 48 = .ok (.iload_n 3, 1) := by decide +kernel
theorem d_Mo_ofOwner_49 : decode prog_13_method_68_code 49 = .ok (.ireturn, 1) := by decide +kernel
theorem d_Mo_ofOwner_14 : decode prog_13_method_68_code 14 = .ok (.iload_n 3, 1) := by decide +kernel
theorem d_Mo_ofOwner_15 : decode prog_13_method_68_code 15 = .ok (.iload_n 1, 1) := by decide +kernel
theorem d_Mo_ofOwner_16 : decode prog_13_method_68_code 16 = .ok (.iload 4, 2) := by decide +kernel
theorem d_Mo_ofOwner_18 : decode prog_13_method_68_code 18 = .ok (.invokestatic 177, 3) := by decide +kernel
theorem d_Mo_ofOwner_24 : decode prog_13_method_68_code 24 = .ok (.aload_n 0, 1) := by decide +kernel
theorem d_Mo_ofOwner_25 : decode prog_13_method_68_code 25 = .ok (.getfield 22, 3) := by decide +kernel
theorem d_Mo_ofOwner_28 : decode prog_13_method_68_code 28 = .ok (.iload 4, 2) := by decide +kernel
theorem d_Mo_ofOwner_30 : decode prog_13_method_68_code 30 = .ok (.iaload, 1) := by decide +kernel
theorem d_Mo_ofOwner_31 : decode prog_13_method_68_code 31 = .ok (.iload_n 2, 1) := by decide +kernel
theorem d_Mo_ofOwner_32 : decode prog_13_method_68_code 32 = .ok (.if_icmp .ne 7, 3) := by decide +kernel
theorem d_Mo_ofOwner_21 : decode prog_13_method_68_code 21 = .ok (.ifCond .eq 18, 3) := by decide +kernel
theorem d_Mo_ofOwner_39 : decode prog_13_method_68_code 39 = .ok (.iconst 0, 1) := by decide +kernel
theorem d_Mo_ofOwner_35 : decode prog_13_method_68_code 35 = .ok (.iconst 1, 1) := by decide +kernel
theorem d_Mo_ofOwner_36 : decode prog_13_method_68_code 36 = .ok (.goto 4, 3) := by decide +kernel
theorem d_Mo_ofOwner_40 : decode prog_13_method_68_code 40 = .ok (.iadd, 1) := by decide +kernel
theorem d_Mo_ofOwner_41 : decode prog_13_method_68_code 41 = .ok (.istore_n 3, 1) := by decide +kernel
theorem d_Mo_ofOwner_42 : decode prog_13_method_68_code 42 = .ok (.iinc 4 1, 3) := by decide +kernel
theorem d_Mo_ofOwner_45 : decode prog_13_method_68_code 45 = .ok (.goto (-40), 3) := by decide +kernel
theorem d_Mo_ofOwner_11 : decode prog_13_method_68_code 11 = .ok (.if_icmp .ge 37, 3) := by decide +kernel
def B_Mo_ofOwner_l5 (N : Nat) (a1 : Int32) (a2 : Int32) (σ : Mem) (rec : Int32 → Int32 → Option (Int32)) (x3 : Int32) (x4 : Int32) : Option (Int32) :=
  if (mI σ 65 0) ≤ x4 then
    (some x3)
  else
    (bnd1 (f_Mo_has a1 x4) fun r18 =>
    bnd1 ((
      bnd1 ((
        if r18 = 0 then
          (some 0)
        else
          (grd (inb x4 17) <|
          if (mI σ 70 (x4.toNatClampNeg)) = a2 then
            (some 1)
          else
            (some 0))) : Option (Nat)) fun t21b =>
      if t21b = 0 then
        (some 0)
      else
      (some 1)) : Option (Int32)) fun y21_s1 =>
    letv (x3 + y21_s1) fun v41 =>
    letv (x4 + 1) fun v42 =>
    rec v41 v42)
def L_Mo_ofOwner_l5 (N : Nat) (a1 : Int32) (a2 : Int32) (σ : Mem) : Nat → Int32 → Int32 → Option (Int32)
  | 0, _, _ => none
  | k + 1, x3, x4 => B_Mo_ofOwner_l5 N a1 a2 σ (L_Mo_ofOwner_l5 N a1 a2 σ k) x3 x4
set_option maxHeartbeats 4000000 in
set_option maxRecDepth 20000 in
theorem cL_Mo_ofOwner_l5 (Z : ZX) {Y : YX} {post : Option Value → Mem → Prop} {N : Nat} {a1 : Int32} {a2 : Int32} {σ : Mem} {Good : Int32 → Prop} (hR : ∀ (v : Int32), Good v → post (some (.int v)) σ) : ∀ (k : Nat) (x3 : Int32) (x4 : Int32) (res : Int32), L_Mo_ofOwner_l5 N a1 a2 σ k x3 x4 = some res → Good res → V (mkB Z) Y m_Mo_ofOwner 1 (QP (mkB Z) Y nC 0 0 post) 0 0 nC σ 5 [(0, rf Z 65), (1, .int a1), (2, .int a2), (3, .int x3), (4, .int x4)] [] := by
  intro k
  induction k with
  | zero => intro x3 x4 res h; cases h
  | succ k ih =>
    intro x3 x4 res h hg
    replace h : B_Mo_ofOwner_l5 N a1 a2 σ (L_Mo_ofOwner_l5 N a1 a2 σ k) x3 x4 = some res := h
    unfold B_Mo_ofOwner_l5 at h
    refine V.iload d_Mo_ofOwner_5 4 rfl ?_
    refine V.aload_n d_Mo_ofOwner_7 rfl 0 rfl ?_
    refine V.getI ok_Mo fl_Mo_167 (by decide) (by decide) ly_65 rfl d_Mo_ofOwner_8 ?_
    refine V.icmp_ge (tgt := 48) d_Mo_ofOwner_11 (by decide) (fun hc11 => ?_) (fun hc11 => ?_)
    · replace h := ite_t hc11 h
      refine V.iload_n d_Mo_ofOwner_48 rfl 3 rfl ?_
      cases h
      exact V.iret rfl d_Mo_ofOwner_49 (hR _ hg)
    · replace h := ite_f hc11 h
      refine V.iload_n d_Mo_ofOwner_14 rfl 3 rfl ?_
      refine V.iload_n d_Mo_ofOwner_15 rfl 1 rfl ?_
      refine V.iload d_Mo_ofOwner_16 4 rfl ?_
      obtain ⟨r18, h1, h⟩ := bnd1_e h
      refine V.sI (as := [.int a1, .int x4]) (st := [.int x3]) (c_Mo_has Z h1) k_Mo_has lk_Mo_177 (by decide) rfl rfl (Nat.le_of_ble_eq_true rfl) d_Mo_ofOwner_18 ?_
      obtain ⟨s21, h1, h⟩ := bnd1_e h
      have J21_40 : ∀ (y21_s1 : Int32), s21 = y21_s1 → V (mkB Z) Y m_Mo_ofOwner 1 (QP (mkB Z) Y nC 0 0 post) 0 0 nC σ 40 [(0, rf Z 65), (1, .int a1), (2, .int a2), (4, .int x4)] [.int y21_s1, .int x3] := by
        intro y21_s1 he
        rw [he] at h
        refine V.iadd d_Mo_ofOwner_40 ?_
        obtain ⟨v41, e_v41, h⟩ := letv_e h
        refine V.topI e_v41 ?_
        refine V.istore_n (lv' := [(3, .int v41), (0, rf Z 65), (1, .int a1), (2, .int a2), (4, .int x4)]) d_Mo_ofOwner_41 rfl (by decide) rfl ?_
        obtain ⟨v42, e_v42, h⟩ := letv_e h
        refine V.iinc (v := v42) (lv' := [(4, .int v42), (3, .int v41), (0, rf Z 65), (1, .int a1), (2, .int a2)]) d_Mo_ofOwner_42 4 rfl (by rw [e_v42]; rfl) (by decide) rfl ?_
        refine V.goto (tgt := 5) d_Mo_ofOwner_45 (by decide) ?_
        exact V.pick [2, 3, 4, 1, 0] rfl (ih _ _ _ h hg)
      replace h := h1
      obtain ⟨s21b, h1, h⟩ := bnd1_e h
      have J21b_39 : s21b = 0 → V (mkB Z) Y m_Mo_ofOwner 1 (QP (mkB Z) Y nC 0 0 post) 0 0 nC σ 39 [(0, rf Z 65), (1, .int a1), (2, .int a2), (4, .int x4)] [.int x3] := by
        intro he
        rw [he] at h
        replace h := ite_t rfl h
        refine V.iconst (v := 0) d_Mo_ofOwner_39 (by decide) ?_
        exact V.pick [0, 1, 2, 3] rfl (J21_40 _ (Option.some.inj h).symm)
      have J21b_35 : s21b = 1 → V (mkB Z) Y m_Mo_ofOwner 1 (QP (mkB Z) Y nC 0 0 post) 0 0 nC σ 35 [(0, rf Z 65), (1, .int a1), (2, .int a2), (4, .int x4)] [.int x3] := by
        intro he
        rw [he] at h
        replace h := ite_f (by decide) h
        refine V.iconst (v := 1) d_Mo_ofOwner_35 (by decide) ?_
        refine V.goto (tgt := 40) d_Mo_ofOwner_36 (by decide) ?_
        exact V.pick [0, 1, 2, 3] rfl (J21_40 _ (Option.some.inj h).symm)
      replace h := h1
      refine V.if_eq (tgt := 39) d_Mo_ofOwner_21 (by decide) (fun hc21 => ?_) (fun hc21 => ?_)
      · replace h := ite_t hc21 h
        exact V.pick [0, 1, 2, 4] rfl (J21b_39 (Option.some.inj h).symm)
      · replace h := ite_f hc21 h
        refine V.aload_n d_Mo_ofOwner_24 rfl 0 rfl ?_
        refine V.getR (r := 70) ok_Mo fl_Mo_22 (by decide) (by decide) ly_65 rfl d_Mo_ofOwner_25 ?_
        refine V.iload d_Mo_ofOwner_28 4 rfl ?_
        obtain ⟨gq, h⟩ := grd_e h
        refine V.ra (by decide) ly_70 (inb_e gq) rfl d_Mo_ofOwner_30 ?_
        refine V.iload_n d_Mo_ofOwner_31 rfl 2 rfl ?_
        refine V.icmp_ne (tgt := 39) d_Mo_ofOwner_32 (by decide) (fun hc32 => ?_) (fun hc32 => ?_)
        · replace h := ite_f hc32 h
          exact V.pick [0, 1, 2, 4] rfl (J21b_39 (Option.some.inj h).symm)
        · replace h := ite_t hc32 h
          exact V.pick [0, 1, 2, 4] rfl (J21b_35 (Option.some.inj h).symm)
def f_Mo_ofOwner (N : Nat) (σ : Mem) (a1 : Int32) (a2 : Int32) : Option (Int32) :=
  L_Mo_ofOwner_l5 N a1 a2 σ N 0 0
set_option maxHeartbeats 4000000 in
set_option maxRecDepth 20000 in
theorem c_Mo_ofOwner (Z : ZX) {N : Nat} {σ : Mem} {a1 : Int32} {a2 : Int32} {r : Int32} (h : f_Mo_ofOwner N σ a1 a2 = some r) : CI Z 1 m_Mo_ofOwner [rf Z 65, .int a1, .int a2] σ r σ := by
  refine Ct.of (by decide +kernel) (Nat.le_of_ble_eq_true rfl) (fun Y => ?_)
  show V (mkB Z) Y m_Mo_ofOwner 1 (QP (mkB Z) Y nC 0 0 (fun v t => v = some (.int r) ∧ t = σ)) 0 0 nC σ 0 [(0, rf Z 65), (1, .int a1), (2, .int a2)] []
  unfold f_Mo_ofOwner at h
  refine V.iconst (v := 0) d_Mo_ofOwner_0 (by decide) ?_
  refine V.istore_n (lv' := [(3, .int 0), (0, rf Z 65), (1, .int a1), (2, .int a2)]) d_Mo_ofOwner_1 rfl (by decide) rfl ?_
  refine V.iconst (v := 0) d_Mo_ofOwner_2 (by decide) ?_
  refine V.istore (lv' := [(4, .int 0), (3, .int 0), (0, rf Z 65), (1, .int a1), (2, .int a2)]) d_Mo_ofOwner_3 (by decide) rfl ?_
  refine V.pick [2, 3, 4, 1, 0] rfl (cL_Mo_ofOwner_l5 Z (Good := fun z => z = _) (fun r5v he => ?_) N _ _ _ h rfl)
  · cases he
    exact ⟨rfl, rfl⟩
abbrev m_Mo_gcd : MI := (⟨"ShadeTownModel", "gcd", "(JJ)J"⟩, prog_13_method_67_code, 10, (Option.some Jvm.ClassFile.FieldType.long))
theorem d_Mo_gcd_0 : decode prog_13_method_67_code 0 = .ok (.lload_n 0, 1) := by decide +kernel
theorem d_Mo_gcd_1 : decode prog_13_method_67_code 1 = .ok (.lstore 4, 2) := by decide +kernel
theorem d_Mo_gcd_3 : decode prog_13_method_67_code 3 = .ok (.lload_n 2, 1) := by decide +kernel
theorem d_Mo_gcd_4 : decode prog_13_method_67_code 4 = .ok (.lstore 6, 2) := by decide +kernel
theorem d_Mo_gcd_6 : decode prog_13_method_67_code 6 = .ok (.lload 6, 2) := by decide +kernel
theorem d_Mo_gcd_8 : decode prog_13_method_67_code 8 = .ok (.lconst 0, 1) := by decide +kernel
theorem d_Mo_gcd_9 : decode prog_13_method_67_code 9 = .ok (.lcmp, 1) := by decide +kernel
theorem d_Mo_gcd_31 : decode prog_13_method_67_code 31 = .ok (.lload 4, 2) := by decide +kernel
theorem d_Mo_gcd_33 : decode prog_13_method_67_code 33 = .ok (.lreturn, 1) := by decide +kernel
theorem d_Mo_gcd_13 : decode prog_13_method_67_code 13 = .ok (.lload 4, 2) := by decide +kernel
theorem d_Mo_gcd_15 : decode prog_13_method_67_code 15 = .ok (.lload 6, 2) := by decide +kernel
theorem d_Mo_gcd_17 : decode prog_13_method_67_code 17 = .ok (.lrem, 1) := by decide +kernel
theorem d_Mo_gcd_18 : decode prog_13_method_67_code 18 = .ok (.lstore 8, 2) := by decide +kernel
theorem d_Mo_gcd_20 : decode prog_13_method_67_code 20 = .ok (.lload 6, 2) := by decide +kernel
theorem d_Mo_gcd_22 : decode prog_13_method_67_code 22 = .ok (.lstore 4, 2) := by decide +kernel
theorem d_Mo_gcd_24 : decode prog_13_method_67_code 24 = .ok (.lload 8, 2) := by decide +kernel
theorem d_Mo_gcd_26 : decode prog_13_method_67_code 26 = .ok (.lstore 6, 2) := by decide +kernel
theorem d_Mo_gcd_28 : decode prog_13_method_67_code 28 = .ok (.goto (-22), 3) := by decide +kernel
theorem d_Mo_gcd_10 : decode prog_13_method_67_code 10 = .ok (.ifCond .eq 21, 3) := by decide +kernel
def B_Mo_gcd_l6 (N : Nat) (rec : Int64 → Int64 → Option (Int64)) (x4 : Int64) (x6 : Int64) : Option (Int64) :=
  if (lg_cmp x6 0) = 0 then
    (some x4)
  else
    (grd (decide (¬ x6 = 0)) <|
    letv (x4 - x4 / x6 * x6) fun v18 =>
    rec x6 v18)
def L_Mo_gcd_l6 (N : Nat) : Nat → Int64 → Int64 → Option (Int64)
  | 0, _, _ => none
  | k + 1, x4, x6 => B_Mo_gcd_l6 N (L_Mo_gcd_l6 N k) x4 x6
set_option maxHeartbeats 4000000 in
set_option maxRecDepth 20000 in
theorem cL_Mo_gcd_l6 (Z : ZX) {Y : YX} {post : Option Value → Mem → Prop} {N : Nat} {σ : Mem} {Good : Int64 → Prop} (hR : ∀ (v : Int64), Good v → post (some (.long v)) σ) : ∀ (k : Nat) (x4 : Int64) (x6 : Int64) (res : Int64), L_Mo_gcd_l6 N k x4 x6 = some res → Good res → V (mkB Z) Y m_Mo_gcd 0 (QP (mkB Z) Y nC 0 0 post) 0 0 nC σ 6 [(4, .long x4), (6, .long x6)] [] := by
  intro k
  induction k with
  | zero => intro x4 x6 res h; cases h
  | succ k ih =>
    intro x4 x6 res h hg
    replace h : B_Mo_gcd_l6 N (L_Mo_gcd_l6 N k) x4 x6 = some res := h
    unfold B_Mo_gcd_l6 at h
    refine V.lload d_Mo_gcd_6 1 rfl ?_
    refine V.lconst (v := 0) d_Mo_gcd_8 (by decide) ?_
    refine V.lcmp d_Mo_gcd_9 ?_
    refine V.if_eq (tgt := 31) d_Mo_gcd_10 (by decide) (fun hc10 => ?_) (fun hc10 => ?_)
    · replace h := ite_t hc10 h
      refine V.lload d_Mo_gcd_31 0 rfl ?_
      cases h
      exact V.lret rfl d_Mo_gcd_33 (hR _ hg)
    · replace h := ite_f hc10 h
      refine V.lload d_Mo_gcd_13 0 rfl ?_
      refine V.lload d_Mo_gcd_15 1 rfl ?_
      obtain ⟨gq, h⟩ := grd_e h
      refine V.lrem d_Mo_gcd_17 (of_decide_eq_true gq) ?_
      obtain ⟨v18, e_v18, h⟩ := letv_e h
      refine V.topL e_v18 ?_
      refine V.lstore (lv' := [(8, .long v18), (4, .long x4), (6, .long x6)]) d_Mo_gcd_18 (by decide) rfl ?_
      refine V.lload d_Mo_gcd_20 2 rfl ?_
      refine V.lstore (lv' := [(4, .long x6), (8, .long v18), (6, .long x6)]) d_Mo_gcd_22 (by decide) rfl ?_
      refine V.lload d_Mo_gcd_24 1 rfl ?_
      refine V.lstore (lv' := [(6, .long v18), (4, .long x6), (8, .long v18)]) d_Mo_gcd_26 (by decide) rfl ?_
      refine V.goto (tgt := 6) d_Mo_gcd_28 (by decide) ?_
      exact V.pick [1, 0] rfl (ih _ _ _ h hg)
def f_Mo_gcd (N : Nat) (a0 : Int64) (a2 : Int64) : Option (Int64) :=
  L_Mo_gcd_l6 N N a0 a2
set_option maxHeartbeats 4000000 in
set_option maxRecDepth 20000 in
theorem c_Mo_gcd (Z : ZX) {N : Nat} {σ : Mem} {a0 : Int64} {a2 : Int64} {r : Int64} (h : f_Mo_gcd N a0 a2 = some r) : CJ Z 0 m_Mo_gcd [.long a0, .long a2] σ r σ := by
  refine Ct.of (by decide +kernel) (Nat.le_of_ble_eq_true rfl) (fun Y => ?_)
  show V (mkB Z) Y m_Mo_gcd 0 (QP (mkB Z) Y nC 0 0 (fun v t => v = some (.long r) ∧ t = σ)) 0 0 nC σ 0 [(0, .long a0), (2, .long a2)] []
  unfold f_Mo_gcd at h
  refine V.lload_n d_Mo_gcd_0 rfl 0 rfl ?_
  refine V.lstore (lv' := [(4, .long a0), (0, .long a0), (2, .long a2)]) d_Mo_gcd_1 (by decide) rfl ?_
  refine V.lload_n d_Mo_gcd_3 rfl 2 rfl ?_
  refine V.lstore (lv' := [(6, .long a2), (4, .long a0), (0, .long a0), (2, .long a2)]) d_Mo_gcd_4 (by decide) rfl ?_
  refine V.pick [1, 0] rfl (cL_Mo_gcd_l6 Z (Good := fun z => z = _) (fun r6v he => ?_) N _ _ _ h rfl)
  · cases he
    exact ⟨rfl, rfl⟩
abbrev m_Mo_led : MI := (⟨"ShadeTownModel", "led", "(II)J"⟩, prog_13_method_69_code, 7, (Option.some Jvm.ClassFile.FieldType.long))
theorem d_Mo_led_0 : decode prog_13_method_69_code 0 = .ok (.iload_n 1, 1) := by decide +kernel
theorem d_Mo_led_1 : decode prog_13_method_69_code 1 = .ok (.iconst 0, 1) := by decide +kernel
theorem d_Mo_led_2 : decode prog_13_method_69_code 2 = .ok (.iconst 5, 1) := by decide +kernel
theorem d_Mo_led_3 : decode prog_13_method_69_code 3 = .ok (.invokestatic 188, 3) := by decide +kernel
theorem kl_Mo_382 : Cond.constantLong "ShadeTownModel" 382 ((-1)) ∈ tblG := atG 1821 (by decide +kernel) rfl
theorem d_Mo_led_18 : decode prog_13_method_69_code 18 = .ok (.ldc2_w 382, 3) := by decide +kernel
theorem d_Mo_led_21 : decode prog_13_method_69_code 21 = .ok (.lreturn, 1) := by decide +kernel
theorem d_Mo_led_9 : decode prog_13_method_69_code 9 = .ok (.iload_n 2, 1) := by decide +kernel
theorem d_Mo_led_10 : decode prog_13_method_69_code 10 = .ok (.iconst 0, 1) := by decide +kernel
theorem d_Mo_led_11 : decode prog_13_method_69_code 11 = .ok (.iconst 1, 1) := by decide +kernel
theorem d_Mo_led_12 : decode prog_13_method_69_code 12 = .ok (.invokestatic 188, 3) := by decide +kernel
theorem d_Mo_led_22 : decode prog_13_method_69_code 22 = .ok (.aload_n 0, 1) := by decide +kernel
theorem d_Mo_led_23 : decode prog_13_method_69_code 23 = .ok (.invokevirtual 370, 3) := by decide +kernel
theorem d_Mo_led_26 : decode prog_13_method_69_code 26 = .ok (.lconst 0, 1) := by decide +kernel
theorem d_Mo_led_27 : decode prog_13_method_69_code 27 = .ok (.lstore_n 3, 1) := by decide +kernel
theorem d_Mo_led_28 : decode prog_13_method_69_code 28 = .ok (.iconst 0, 1) := by decide +kernel
theorem d_Mo_led_29 : decode prog_13_method_69_code 29 = .ok (.istore 5, 2) := by decide +kernel
theorem d_Mo_led_31 : decode prog_13_method_69_code 31 = .ok (.iload 5, 2) := by decide +kernel
theorem d_Mo_led_33 : decode prog_13_method_69_code 33 = .ok (.sipush 3456, 3) := by decide +kernel
theorem d_Mo_led_39 : decode prog_13_method_69_code 39 = .ok (.aload_n 0, 1) := by decide +kernel
theorem d_Mo_led_40 : decode prog_13_method_69_code 40 = .ok (.getfield 71, 3) := by decide +kernel
theorem d_Mo_led_43 : decode prog_13_method_69_code 43 = .ok (.iload 5, 2) := by decide +kernel
theorem d_Mo_led_45 : decode prog_13_method_69_code 45 = .ok (.iaload, 1) := by decide +kernel
theorem d_Mo_led_49 : decode prog_13_method_69_code 49 = .ok (.lload_n 3, 1) := by decide +kernel
theorem d_Mo_led_50 : decode prog_13_method_69_code 50 = .ok (.aload_n 0, 1) := by decide +kernel
theorem d_Mo_led_51 : decode prog_13_method_69_code 51 = .ok (.aload_n 0, 1) := by decide +kernel
theorem d_Mo_led_52 : decode prog_13_method_69_code 52 = .ok (.getfield 71, 3) := by decide +kernel
theorem d_Mo_led_55 : decode prog_13_method_69_code 55 = .ok (.iload 5, 2) := by decide +kernel
theorem d_Mo_led_57 : decode prog_13_method_69_code 57 = .ok (.iaload, 1) := by decide +kernel
theorem d_Mo_led_58 : decode prog_13_method_69_code 58 = .ok (.iload_n 1, 1) := by decide +kernel
theorem d_Mo_led_59 : decode prog_13_method_69_code 59 = .ok (.invokevirtual 384, 3) := by decide +kernel
theorem k_Mo_ofOwner : MOk m_Mo_ofOwner 2 ∧ IOk m_Mo_ofOwner := ⟨⟨atG 1825 (by decide +kernel) rfl, atG 122 (by decide +kernel) rfl, ⟨by decide, by decide⟩, by decide +kernel, by decide⟩, atG 1824 (by decide +kernel) rfl, atG 81 (by decide +kernel) rfl⟩
theorem lk_Mo_384 : Cond.methodLink "ShadeTownModel" 384 ⟨"ShadeTownModel", "ofOwner", "(II)I"⟩ ∈ tblG := atG 1822 (by decide +kernel) rfl
theorem d_Mo_led_62 : decode prog_13_method_69_code 62 = .ok (.i2l, 1) := by decide +kernel
theorem kc_Mo_387 : Cond.constant "ShadeTownModel" 387 (720720) ∈ tblG := atG 1826 (by decide +kernel) rfl
theorem d_Mo_led_63 : decode prog_13_method_69_code 63 = .ok (.ldc_w 387, 3) := by decide +kernel
theorem d_Mo_led_66 : decode prog_13_method_69_code 66 = .ok (.aload_n 0, 1) := by decide +kernel
theorem d_Mo_led_67 : decode prog_13_method_69_code 67 = .ok (.getfield 71, 3) := by decide +kernel
theorem d_Mo_led_70 : decode prog_13_method_69_code 70 = .ok (.iload 5, 2) := by decide +kernel
theorem d_Mo_led_72 : decode prog_13_method_69_code 72 = .ok (.iaload, 1) := by decide +kernel
theorem d_Mo_led_73 : decode prog_13_method_69_code 73 = .ok (.invokestatic 376, 3) := by decide +kernel
theorem d_Mo_led_76 : decode prog_13_method_69_code 76 = .ok (.idiv, 1) := by decide +kernel
theorem d_Mo_led_77 : decode prog_13_method_69_code 77 = .ok (.i2l, 1) := by decide +kernel
theorem d_Mo_led_78 : decode prog_13_method_69_code 78 = .ok (.lmul, 1) := by decide +kernel
theorem d_Mo_led_79 : decode prog_13_method_69_code 79 = .ok (.ladd, 1) := by decide +kernel
theorem d_Mo_led_80 : decode prog_13_method_69_code 80 = .ok (.lstore_n 3, 1) := by decide +kernel
theorem d_Mo_led_46 : decode prog_13_method_69_code 46 = .ok (.ifCond .eq 35, 3) := by decide +kernel
theorem d_Mo_led_81 : decode prog_13_method_69_code 81 = .ok (.iinc 5 1, 3) := by decide +kernel
theorem d_Mo_led_84 : decode prog_13_method_69_code 84 = .ok (.goto (-53), 3) := by decide +kernel
theorem d_Mo_led_36 : decode prog_13_method_69_code 36 = .ok (.if_icmp .ge 51, 3) := by decide +kernel
theorem d_Mo_led_87 : decode prog_13_method_69_code 87 = .ok (.lload_n 3, 1) := by decide +kernel
theorem kl_Mo_388 : Cond.constantLong "ShadeTownModel" 388 (720720) ∈ tblG := atG 1827 (by decide +kernel) rfl
theorem d_Mo_led_88 : decode prog_13_method_69_code 88 = .ok (.ldc2_w 388, 3) := by decide +kernel
theorem d_Mo_led_91 : decode prog_13_method_69_code 91 = .ok (.invokestatic 390, 3) := by decide +kernel
theorem k_Mo_gcd : MOk m_Mo_gcd 2 ∧ Cond.static m_Mo_gcd.1 ∈ tblG := ⟨⟨atG 1830 (by decide +kernel) rfl, atG 122 (by decide +kernel) rfl, ⟨by decide, by decide⟩, by decide +kernel, by decide⟩, atG 1829 (by decide +kernel) rfl⟩
theorem lk_Mo_390 : Cond.methodLink "ShadeTownModel" 390 ⟨"ShadeTownModel", "gcd", "(JJ)J"⟩ ∈ tblG := atG 1828 (by decide +kernel) rfl
theorem d_Mo_led_94 : decode prog_13_method_69_code 94 = .ok (.lstore 5, 2) := by decide +kernel
theorem d_Mo_led_96 : decode prog_13_method_69_code 96 = .ok (.iload_n 2, 1) := by decide +kernel
theorem d_Mo_led_107 : decode prog_13_method_69_code 107 = .ok (.ldc2_w 388, 3) := by decide +kernel
theorem d_Mo_led_110 : decode prog_13_method_69_code 110 = .ok (.lload 5, 2) := by decide +kernel
theorem d_Mo_led_112 : decode prog_13_method_69_code 112 = .ok (.ldiv, 1) := by decide +kernel
theorem d_Mo_led_113 : decode prog_13_method_69_code 113 = .ok (.lreturn, 1) := by decide +kernel
theorem d_Mo_led_100 : decode prog_13_method_69_code 100 = .ok (.lload_n 3, 1) := by decide +kernel
theorem d_Mo_led_101 : decode prog_13_method_69_code 101 = .ok (.lload 5, 2) := by decide +kernel
theorem d_Mo_led_103 : decode prog_13_method_69_code 103 = .ok (.ldiv, 1) := by decide +kernel
theorem d_Mo_led_104 : decode prog_13_method_69_code 104 = .ok (.goto 9, 3) := by decide +kernel
theorem d_Mo_led_97 : decode prog_13_method_69_code 97 = .ok (.ifCond .ne 10, 3) := by decide +kernel
theorem d_Mo_led_15 : decode prog_13_method_69_code 15 = .ok (.ifCond .ne 7, 3) := by decide +kernel
theorem d_Mo_led_6 : decode prog_13_method_69_code 6 = .ok (.ifCond .eq 12, 3) := by decide +kernel
def B_Mo_led_l31 (N : Nat) (a1 : Int32) (a2 : Int32) (σ : Mem) (rec : Int64 → Int32 → Option (Int64)) (x3 : Int64) (x5 : Int32) : Option (Int64) :=
  if 3456 ≤ x5 then
    (some x3)
  else
    (grd (inb x5 3456) <|
    bnd1 ((
      if (mI σ 86 (x5.toNatClampNeg)) = 0 then
        (some x3)
      else
        (grd (inb x5 3456) <|
        bnd1 (f_Mo_ofOwner N σ (mI σ 86 (x5.toNatClampNeg)) a1) fun r59 =>
        grd (inb x5 3456) <|
        bnd1 (f_Mo_bits N (mI σ 86 (x5.toNatClampNeg))) fun r73 =>
        grd (decide (¬ r73 = 0)) <|
        letv (x3 + ((r59.toInt64) * ((720720 / r73).toInt64))) fun v80 =>
        some v80)) : Option (Int64)) fun y46_3 =>
    letv (x5 + 1) fun v81 =>
    rec y46_3 v81)
def L_Mo_led_l31 (N : Nat) (a1 : Int32) (a2 : Int32) (σ : Mem) : Nat → Int64 → Int32 → Option (Int64)
  | 0, _, _ => none
  | k + 1, x3, x5 => B_Mo_led_l31 N a1 a2 σ (L_Mo_led_l31 N a1 a2 σ k) x3 x5
set_option maxHeartbeats 4000000 in
set_option maxRecDepth 20000 in
theorem cL_Mo_led_l31 (Z : ZX) {Y : YX} {Q : State → Prop} {N : Nat} {a1 : Int32} {a2 : Int32} {σ : Mem} {Good : Int64 → Prop} (hE : ∀ (o3 : Int64), Good o3 → V (mkB Z) Y m_Mo_led 6 Q 0 0 nC σ 87 [(2, .int a2), (3, .long o3)] []) : ∀ (k : Nat) (x3 : Int64) (x5 : Int32) (res : Int64), L_Mo_led_l31 N a1 a2 σ k x3 x5 = some res → Good res → V (mkB Z) Y m_Mo_led 6 Q 0 0 nC σ 31 [(0, rf Z 65), (1, .int a1), (2, .int a2), (3, .long x3), (5, .int x5)] [] := by
  intro k
  induction k with
  | zero => intro x3 x5 res h; cases h
  | succ k ih =>
    intro x3 x5 res h hg
    replace h : B_Mo_led_l31 N a1 a2 σ (L_Mo_led_l31 N a1 a2 σ k) x3 x5 = some res := h
    unfold B_Mo_led_l31 at h
    refine V.iload d_Mo_led_31 4 rfl ?_
    refine V.sipush (v := 3456) d_Mo_led_33 (by decide) ?_
    refine V.icmp_ge (tgt := 87) d_Mo_led_36 (by decide) (fun hc36 => ?_) (fun hc36 => ?_)
    · replace h := ite_t hc36 h
      cases h
      exact V.pick [2, 3] rfl (hE _ hg)
    · replace h := ite_f hc36 h
      refine V.aload_n d_Mo_led_39 rfl 0 rfl ?_
      refine V.getR (r := 86) ok_Mo fl_Mo_71 (by decide) (by decide) ly_65 rfl d_Mo_led_40 ?_
      refine V.iload d_Mo_led_43 4 rfl ?_
      obtain ⟨gq, h⟩ := grd_e h
      refine V.ra (by decide) ly_86 (inb_e gq) rfl d_Mo_led_45 ?_
      obtain ⟨s46, h1, h⟩ := bnd1_e h
      have J46_81 : ∀ (y46_3 : Int64), s46 = y46_3 → V (mkB Z) Y m_Mo_led 6 Q 0 0 nC σ 81 [(0, rf Z 65), (1, .int a1), (2, .int a2), (3, .long y46_3), (5, .int x5)] [] := by
        intro y46_3 he
        rw [he] at h
        obtain ⟨v81, e_v81, h⟩ := letv_e h
        refine V.iinc (v := v81) (lv' := [(5, .int v81), (0, rf Z 65), (1, .int a1), (2, .int a2), (3, .long y46_3)]) d_Mo_led_81 4 rfl (by rw [e_v81]; rfl) (by decide) rfl ?_
        refine V.goto (tgt := 31) d_Mo_led_84 (by decide) ?_
        exact V.pick [1, 2, 3, 4, 0] rfl (ih _ _ _ h hg)
      replace h := h1
      refine V.if_eq (tgt := 81) d_Mo_led_46 (by decide) (fun hc46 => ?_) (fun hc46 => ?_)
      · replace h := ite_t hc46 h
        exact V.pick [0, 1, 2, 3, 4] rfl (J46_81 _ (Option.some.inj h).symm)
      · replace h := ite_f hc46 h
        refine V.lload_n d_Mo_led_49 rfl 3 rfl ?_
        refine V.aload_n d_Mo_led_50 rfl 0 rfl ?_
        refine V.aload_n d_Mo_led_51 rfl 0 rfl ?_
        refine V.getR (r := 86) ok_Mo fl_Mo_71 (by decide) (by decide) ly_65 rfl d_Mo_led_52 ?_
        refine V.iload d_Mo_led_55 4 rfl ?_
        obtain ⟨gq, h⟩ := grd_e h
        refine V.ra (by decide) ly_86 (inb_e gq) rfl d_Mo_led_57 ?_
        refine V.iload_n d_Mo_led_58 rfl 1 rfl ?_
        obtain ⟨r59, h1, h⟩ := bnd1_e h
        refine V.vI (as := [.int (mI σ 86 (x5.toNatClampNeg)), .int a1]) (st := [.long x3]) (c_Mo_ofOwner Z h1) k_Mo_ofOwner lk_Mo_384 (by decide) rfl (by decide) ly_65 ok_Mo.1 rfl (Nat.le_of_ble_eq_true rfl) d_Mo_led_59 ?_
        refine V.i2l d_Mo_led_62 ?_
        refine V.ldcw (v := 720720) kc_Mo_387 d_Mo_led_63 ?_
        refine V.aload_n d_Mo_led_66 rfl 0 rfl ?_
        refine V.getR (r := 86) ok_Mo fl_Mo_71 (by decide) (by decide) ly_65 rfl d_Mo_led_67 ?_
        refine V.iload d_Mo_led_70 4 rfl ?_
        obtain ⟨gq, h⟩ := grd_e h
        refine V.ra (by decide) ly_86 (inb_e gq) rfl d_Mo_led_72 ?_
        obtain ⟨r73, h1, h⟩ := bnd1_e h
        refine V.sI (as := [.int (mI σ 86 (x5.toNatClampNeg))]) (st := [.int 720720, .long (r59.toInt64), .long x3]) (c_Mo_bits Z h1) k_Mo_bits lk_Mo_376 (by decide) rfl rfl (Nat.le_of_ble_eq_true rfl) d_Mo_led_73 ?_
        obtain ⟨gq, h⟩ := grd_e h
        refine V.idiv d_Mo_led_76 (of_decide_eq_true gq) ?_
        refine V.i2l d_Mo_led_77 ?_
        refine V.lmul d_Mo_led_78 ?_
        refine V.ladd d_Mo_led_79 ?_
        obtain ⟨v80, e_v80, h⟩ := letv_e h
        refine V.topL e_v80 ?_
        refine V.lstore_n (lv' := [(3, .long v80), (0, rf Z 65), (1, .int a1), (2, .int a2), (5, .int x5)]) d_Mo_led_80 rfl (by decide) rfl ?_
        exact V.pick [1, 2, 3, 0, 4] rfl (J46_81 _ (Option.some.inj h).symm)
def f_Mo_led (N : Nat) (σ : Mem) (a1 : Int32) (a2 : Int32) : Option (Int64 × Mem) :=
  bnd1 (f_Mo_in a1 0 5) fun r3 =>
  if r3 = 0 then
    (some ((-1), σ))
  else
    (bnd1 (f_Mo_in a2 0 1) fun r12 =>
    if r12 = 0 then
      (some ((-1), σ))
    else
      (bnd1 (f_Mo_laysDay N σ) fun σ23 =>
      bnd1 (L_Mo_led_l31 N a1 a2 σ23 N 0 0) fun z31_3 =>
      bnd1 (f_Mo_gcd N z31_3 720720) fun r91 =>
      if a2 = 0 then
        (grd (decide (¬ r91 = 0)) <|
        some (z31_3 / r91, σ23))
      else
        (grd (decide (¬ r91 = 0)) <|
        some (720720 / r91, σ23))))
set_option maxHeartbeats 4000000 in
set_option maxRecDepth 20000 in
theorem c_Mo_led (Z : ZX) {N : Nat} {σ : Mem} {a1 : Int32} {a2 : Int32} {r : Int64} {σ' : Mem} (h : f_Mo_led N σ a1 a2 = some (r, σ')) : CJ Z 6 m_Mo_led [rf Z 65, .int a1, .int a2] σ r σ' := by
  refine Ct.of (by decide +kernel) (Nat.le_of_ble_eq_true rfl) (fun Y => ?_)
  show V (mkB Z) Y m_Mo_led 6 (QP (mkB Z) Y nC 0 0 (fun v t => v = some (.long r) ∧ t = σ')) 0 0 nC σ 0 [(0, rf Z 65), (1, .int a1), (2, .int a2)] []
  unfold f_Mo_led at h
  refine V.iload_n d_Mo_led_0 rfl 1 rfl ?_
  refine V.iconst (v := 0) d_Mo_led_1 (by decide) ?_
  refine V.iconst (v := 5) d_Mo_led_2 (by decide) ?_
  obtain ⟨r3, h1, h⟩ := bnd1_e h
  refine V.sI (as := [.int a1, .int 0, .int 5]) (st := []) (c_Mo_in Z h1) k_Mo_in lk_Mo_188 (by decide) rfl rfl (Nat.le_of_ble_eq_true rfl) d_Mo_led_3 ?_
  refine V.if_eq (tgt := 18) d_Mo_led_6 (by decide) (fun hc6 => ?_) (fun hc6 => ?_)
  · replace h := ite_t hc6 h
    refine V.ldc2 (v := (-1)) kl_Mo_382 d_Mo_led_18 ?_
    cases h
    exact V.lret rfl d_Mo_led_21 ⟨rfl, rfl⟩
  · replace h := ite_f hc6 h
    refine V.iload_n d_Mo_led_9 rfl 2 rfl ?_
    refine V.iconst (v := 0) d_Mo_led_10 (by decide) ?_
    refine V.iconst (v := 1) d_Mo_led_11 (by decide) ?_
    obtain ⟨r12, h1, h⟩ := bnd1_e h
    refine V.sI (as := [.int a2, .int 0, .int 1]) (st := []) (c_Mo_in Z h1) k_Mo_in lk_Mo_188 (by decide) rfl rfl (Nat.le_of_ble_eq_true rfl) d_Mo_led_12 ?_
    refine V.if_ne (tgt := 22) d_Mo_led_15 (by decide) (fun hc15 => ?_) (fun hc15 => ?_)
    · replace h := ite_f hc15 h
      refine V.aload_n d_Mo_led_22 rfl 0 rfl ?_
      obtain ⟨σ23, h1, h⟩ := bnd1_e h
      refine V.vN (as := []) (st := []) (c_Mo_laysDay Z h1) k_Mo_laysDay lk_Mo_370 (by decide) rfl (by decide) ly_65 ok_Mo.1 rfl (Nat.le_of_ble_eq_true rfl) d_Mo_led_23 ?_
      refine V.lconst (v := 0) d_Mo_led_26 (by decide) ?_
      refine V.lstore_n (lv' := [(3, .long 0), (0, rf Z 65), (1, .int a1), (2, .int a2)]) d_Mo_led_27 rfl (by decide) rfl ?_
      refine V.iconst (v := 0) d_Mo_led_28 (by decide) ?_
      refine V.istore (lv' := [(5, .int 0), (3, .long 0), (0, rf Z 65), (1, .int a1), (2, .int a2)]) d_Mo_led_29 (by decide) rfl ?_
      obtain ⟨x31_, h1, h⟩ := bnd1_e h
      refine V.pick [2, 3, 4, 1, 0] rfl (cL_Mo_led_l31 Z (Good := fun z => x31_ = z) (fun z31_3 he => ?_) N _ _ _ h1 rfl)
      · rw [he] at h
        refine V.lload_n d_Mo_led_87 rfl 1 rfl ?_
        refine V.ldc2 (v := 720720) kl_Mo_388 d_Mo_led_88 ?_
        obtain ⟨r91, h1, h⟩ := bnd1_e h
        refine V.sJ (as := [.long z31_3, .long 720720]) (st := []) (c_Mo_gcd Z h1) k_Mo_gcd lk_Mo_390 (by decide) rfl rfl (Nat.le_of_ble_eq_true rfl) d_Mo_led_91 ?_
        refine V.lstore (lv' := [(5, .long r91), (2, .int a2), (3, .long z31_3)]) d_Mo_led_94 (by decide) rfl ?_
        refine V.iload_n d_Mo_led_96 rfl 1 rfl ?_
        refine V.if_ne (tgt := 107) d_Mo_led_97 (by decide) (fun hc97 => ?_) (fun hc97 => ?_)
        · replace h := ite_f hc97 h
          refine V.ldc2 (v := 720720) kl_Mo_388 d_Mo_led_107 ?_
          refine V.lload d_Mo_led_110 0 rfl ?_
          obtain ⟨gq, h⟩ := grd_e h
          refine V.ldiv d_Mo_led_112 (of_decide_eq_true gq) ?_
          cases h
          exact V.lret rfl d_Mo_led_113 ⟨rfl, rfl⟩
        · replace h := ite_t hc97 h
          refine V.lload_n d_Mo_led_100 rfl 2 rfl ?_
          refine V.lload d_Mo_led_101 0 rfl ?_
          obtain ⟨gq, h⟩ := grd_e h
          refine V.ldiv d_Mo_led_103 (of_decide_eq_true gq) ?_
          refine V.goto (tgt := 113) d_Mo_led_104 (by decide) ?_
          cases h
          exact V.lret rfl d_Mo_led_113 ⟨rfl, rfl⟩
    · replace h := ite_t hc15 h
      refine V.ldc2 (v := (-1)) kl_Mo_382 d_Mo_led_18 ?_
      cases h
      exact V.lret rfl d_Mo_led_21 ⟨rfl, rfl⟩
abbrev m_Mo_laysLongest : MI := (⟨"ShadeTownModel", "laysLongest", "(I)V"⟩, prog_13_method_70_code, 4, (Option.none : Option Jvm.ClassFile.FieldType))
theorem d_Mo_laysLongest_0 : decode prog_13_method_70_code 0 = .ok (.aload_n 0, 1) := by decide +kernel
theorem d_Mo_laysLongest_1 : decode prog_13_method_70_code 1 = .ok (.iconst 0, 1) := by decide +kernel
theorem fl_Mo_394 : FL "ShadeTownModel" 394 T_Mo 38 := atG 1370 (by decide +kernel) rfl
theorem d_Mo_laysLongest_2 : decode prog_13_method_70_code 2 = .ok (.putfield 394, 3) := by decide +kernel
theorem d_Mo_laysLongest_5 : decode prog_13_method_70_code 5 = .ok (.aload_n 0, 1) := by decide +kernel
theorem d_Mo_laysLongest_6 : decode prog_13_method_70_code 6 = .ok (.bipush (-2), 2) := by decide +kernel
theorem fl_Mo_397 : FL "ShadeTownModel" 397 T_Mo 39 := atG 1371 (by decide +kernel) rfl
theorem d_Mo_laysLongest_8 : decode prog_13_method_70_code 8 = .ok (.putfield 397, 3) := by decide +kernel
theorem d_Mo_laysLongest_11 : decode prog_13_method_70_code 11 = .ok (.iconst 0, 1) := by decide +kernel
theorem d_Mo_laysLongest_12 : decode prog_13_method_70_code 12 = .ok (.istore_n 2, 1) := by decide +kernel
theorem d_Mo_laysLongest_13 : decode prog_13_method_70_code 13 = .ok (.iconst 0, 1) := by decide +kernel
theorem d_Mo_laysLongest_14 : decode prog_13_method_70_code 14 = .ok (.istore_n 3, 1) := by decide +kernel
theorem d_Mo_laysLongest_15 : decode prog_13_method_70_code 15 = .ok (.iload_n 3, 1) := by decide +kernel
theorem d_Mo_laysLongest_16 : decode prog_13_method_70_code 16 = .ok (.bipush 24, 2) := by decide +kernel
theorem d_Mo_laysLongest_69 : decode prog_13_method_70_code 69 = .ok (.return_, 1) := by decide +kernel
theorem d_Mo_laysLongest_21 : decode prog_13_method_70_code 21 = .ok (.aload_n 0, 1) := by decide +kernel
theorem d_Mo_laysLongest_22 : decode prog_13_method_70_code 22 = .ok (.iload_n 3, 1) := by decide +kernel
theorem d_Mo_laysLongest_23 : decode prog_13_method_70_code 23 = .ok (.iload_n 1, 1) := by decide +kernel
theorem d_Mo_laysLongest_24 : decode prog_13_method_70_code 24 = .ok (.invokevirtual 373, 3) := by decide +kernel
theorem d_Mo_laysLongest_36 : decode prog_13_method_70_code 36 = .ok (.iconst 0, 1) := by decide +kernel
theorem d_Mo_laysLongest_30 : decode prog_13_method_70_code 30 = .ok (.iload_n 2, 1) := by decide +kernel
theorem d_Mo_laysLongest_31 : decode prog_13_method_70_code 31 = .ok (.iconst 1, 1) := by decide +kernel
theorem d_Mo_laysLongest_32 : decode prog_13_method_70_code 32 = .ok (.iadd, 1) := by decide +kernel
theorem d_Mo_laysLongest_33 : decode prog_13_method_70_code 33 = .ok (.goto 4, 3) := by decide +kernel
theorem d_Mo_laysLongest_27 : decode prog_13_method_70_code 27 = .ok (.ifCond .eq 9, 3) := by decide +kernel
theorem d_Mo_laysLongest_37 : decode prog_13_method_70_code 37 = .ok (.istore_n 2, 1) := by decide +kernel
theorem d_Mo_laysLongest_38 : decode prog_13_method_70_code 38 = .ok (.iload_n 2, 1) := by decide +kernel
theorem d_Mo_laysLongest_39 : decode prog_13_method_70_code 39 = .ok (.aload_n 0, 1) := by decide +kernel
theorem d_Mo_laysLongest_40 : decode prog_13_method_70_code 40 = .ok (.getfield 394, 3) := by decide +kernel
theorem d_Mo_laysLongest_49 : decode prog_13_method_70_code 49 = .ok (.aload_n 0, 1) := by decide +kernel
theorem d_Mo_laysLongest_50 : decode prog_13_method_70_code 50 = .ok (.iload_n 2, 1) := by decide +kernel
theorem d_Mo_laysLongest_51 : decode prog_13_method_70_code 51 = .ok (.putfield 394, 3) := by decide +kernel
theorem d_Mo_laysLongest_54 : decode prog_13_method_70_code 54 = .ok (.aload_n 0, 1) := by decide +kernel
theorem d_Mo_laysLongest_55 : decode prog_13_method_70_code 55 = .ok (.iload_n 3, 1) := by decide +kernel
theorem d_Mo_laysLongest_56 : decode prog_13_method_70_code 56 = .ok (.iload_n 2, 1) := by decide +kernel
theorem d_Mo_laysLongest_57 : decode prog_13_method_70_code 57 = .ok (.isub, 1) := by decide +kernel
theorem d_Mo_laysLongest_58 : decode prog_13_method_70_code 58 = .ok (.iconst 1, 1) := by decide +kernel
theorem d_Mo_laysLongest_59 : decode prog_13_method_70_code 59 = .ok (.iadd, 1) := by decide +kernel
theorem d_Mo_laysLongest_60 : decode prog_13_method_70_code 60 = .ok (.putfield 397, 3) := by decide +kernel
theorem d_Mo_laysLongest_46 : decode prog_13_method_70_code 46 = .ok (.goto 17, 3) := by decide +kernel
theorem d_Mo_laysLongest_43 : decode prog_13_method_70_code 43 = .ok (.if_icmp .gt 6, 3) := by decide +kernel
theorem d_Mo_laysLongest_63 : decode prog_13_method_70_code 63 = .ok (.iinc 3 1, 3) := by decide +kernel
theorem d_Mo_laysLongest_66 : decode prog_13_method_70_code 66 = .ok (.goto (-51), 3) := by decide +kernel
theorem d_Mo_laysLongest_18 : decode prog_13_method_70_code 18 = .ok (.if_icmp .ge 51, 3) := by decide +kernel
def B_Mo_laysLongest_l15 (N : Nat) (a1 : Int32) (rec : Int32 → Int32 → Mem → Option (Mem)) (x2 : Int32) (x3 : Int32) (σ : Mem) : Option (Mem) :=
  if 24 ≤ x3 then
    (some σ)
  else
    (bnd1 (f_Mo_whoOn σ x3 a1) fun r24 =>
    bnd1 ((
      if r24 = 0 then
        (some 0)
      else
        (some (x2 + 1))) : Option (Int32)) fun y27_s0 =>
    bnd1 ((
      if (mI σ 65 38) < y27_s0 then
        (letv (sI σ 65 38 y27_s0) fun σ51 =>
        letv (sI σ51 65 39 ((x3 - y27_s0) + 1)) fun σ60 =>
        some σ60)
      else
        (some σ)) : Option (Mem)) fun σ43_ =>
    letv (x3 + 1) fun v63 =>
    rec y27_s0 v63 σ43_)
def L_Mo_laysLongest_l15 (N : Nat) (a1 : Int32) : Nat → Int32 → Int32 → Mem → Option (Mem)
  | 0, _, _, _ => none
  | k + 1, x2, x3, σ => B_Mo_laysLongest_l15 N a1 (L_Mo_laysLongest_l15 N a1 k) x2 x3 σ
set_option maxHeartbeats 4000000 in
set_option maxRecDepth 20000 in
theorem cL_Mo_laysLongest_l15 (Z : ZX) {Y : YX} {post : Option Value → Mem → Prop} {N : Nat} {a1 : Int32} {Good : Mem → Prop} (hR : ∀ (σr : Mem), Good σr → post none σr) : ∀ (k : Nat) (x2 : Int32) (x3 : Int32) (σ : Mem) (res : Mem), L_Mo_laysLongest_l15 N a1 k x2 x3 σ = some res → Good res → V (mkB Z) Y m_Mo_laysLongest 1 (QP (mkB Z) Y nC 0 0 post) 0 0 nC σ 15 [(0, rf Z 65), (1, .int a1), (2, .int x2), (3, .int x3)] [] := by
  intro k
  induction k with
  | zero => intro x2 x3 σ res h; cases h
  | succ k ih =>
    intro x2 x3 σ res h hg
    replace h : B_Mo_laysLongest_l15 N a1 (L_Mo_laysLongest_l15 N a1 k) x2 x3 σ = some res := h
    unfold B_Mo_laysLongest_l15 at h
    refine V.iload_n d_Mo_laysLongest_15 rfl 3 rfl ?_
    refine V.bipush (v := 24) d_Mo_laysLongest_16 (by decide) ?_
    refine V.icmp_ge (tgt := 69) d_Mo_laysLongest_18 (by decide) (fun hc18 => ?_) (fun hc18 => ?_)
    · replace h := ite_t hc18 h
      cases h
      exact V.vret rfl d_Mo_laysLongest_69 (hR _ hg)
    · replace h := ite_f hc18 h
      refine V.aload_n d_Mo_laysLongest_21 rfl 0 rfl ?_
      refine V.iload_n d_Mo_laysLongest_22 rfl 3 rfl ?_
      refine V.iload_n d_Mo_laysLongest_23 rfl 1 rfl ?_
      obtain ⟨r24, h1, h⟩ := bnd1_e h
      refine V.vI (as := [.int x3, .int a1]) (st := []) (c_Mo_whoOn Z h1) k_Mo_whoOn lk_Mo_373 (by decide) rfl (by decide) ly_65 ok_Mo.1 rfl (Nat.le_of_ble_eq_true rfl) d_Mo_laysLongest_24 ?_
      obtain ⟨s27, h1, h⟩ := bnd1_e h
      have J27_37 : ∀ (y27_s0 : Int32), s27 = y27_s0 → V (mkB Z) Y m_Mo_laysLongest 1 (QP (mkB Z) Y nC 0 0 post) 0 0 nC σ 37 [(0, rf Z 65), (1, .int a1), (3, .int x3)] [.int y27_s0] := by
        intro y27_s0 he
        rw [he] at h
        refine V.istore_n (lv' := [(2, .int y27_s0), (0, rf Z 65), (1, .int a1), (3, .int x3)]) d_Mo_laysLongest_37 rfl (by decide) rfl ?_
        refine V.iload_n d_Mo_laysLongest_38 rfl 0 rfl ?_
        refine V.aload_n d_Mo_laysLongest_39 rfl 1 rfl ?_
        refine V.getI ok_Mo fl_Mo_394 (by decide) (by decide) ly_65 rfl d_Mo_laysLongest_40 ?_
        obtain ⟨s43, h1, h⟩ := bnd1_e h
        have J43_63 : ∀ (σ43_ : Mem), s43 = σ43_ → V (mkB Z) Y m_Mo_laysLongest 1 (QP (mkB Z) Y nC 0 0 post) 0 0 nC σ43_ 63 [(0, rf Z 65), (1, .int a1), (2, .int y27_s0), (3, .int x3)] [] := by
          intro σ43_ he
          rw [he] at h
          obtain ⟨v63, e_v63, h⟩ := letv_e h
          refine V.iinc (v := v63) (lv' := [(3, .int v63), (0, rf Z 65), (1, .int a1), (2, .int y27_s0)]) d_Mo_laysLongest_63 3 rfl (by rw [e_v63]; rfl) (by decide) rfl ?_
          refine V.goto (tgt := 15) d_Mo_laysLongest_66 (by decide) ?_
          exact V.pick [1, 2, 3, 0] rfl (ih _ _ _ _ h hg)
        replace h := h1
        refine V.icmp_gt (tgt := 49) d_Mo_laysLongest_43 (by decide) (fun hc43 => ?_) (fun hc43 => ?_)
        · replace h := ite_t hc43 h
          refine V.aload_n d_Mo_laysLongest_49 rfl 1 rfl ?_
          refine V.iload_n d_Mo_laysLongest_50 rfl 0 rfl ?_
          obtain ⟨σ51, e_σ51, h⟩ := letv_e h
          refine V.putI ok_Mo fl_Mo_394 (by decide) (by decide) ly_65 rfl rfl rfl rfl d_Mo_laysLongest_51 (V.mem e_σ51 ?_)
          refine V.aload_n d_Mo_laysLongest_54 rfl 1 rfl ?_
          refine V.iload_n d_Mo_laysLongest_55 rfl 3 rfl ?_
          refine V.iload_n d_Mo_laysLongest_56 rfl 0 rfl ?_
          refine V.isub d_Mo_laysLongest_57 ?_
          refine V.iconst (v := 1) d_Mo_laysLongest_58 (by decide) ?_
          refine V.iadd d_Mo_laysLongest_59 ?_
          obtain ⟨σ60, e_σ60, h⟩ := letv_e h
          refine V.putI ok_Mo fl_Mo_397 (by decide) (by decide) ly_65 rfl rfl rfl rfl d_Mo_laysLongest_60 (V.mem e_σ60 ?_)
          exact V.pick [1, 2, 0, 3] rfl (J43_63 _ (Option.some.inj h).symm)
        · replace h := ite_f hc43 h
          refine V.goto (tgt := 63) d_Mo_laysLongest_46 (by decide) ?_
          exact V.pick [1, 2, 0, 3] rfl (J43_63 _ (Option.some.inj h).symm)
      replace h := h1
      refine V.if_eq (tgt := 36) d_Mo_laysLongest_27 (by decide) (fun hc27 => ?_) (fun hc27 => ?_)
      · replace h := ite_t hc27 h
        refine V.iconst (v := 0) d_Mo_laysLongest_36 (by decide) ?_
        exact V.pick [0, 1, 3] rfl (J27_37 _ (Option.some.inj h).symm)
      · replace h := ite_f hc27 h
        refine V.iload_n d_Mo_laysLongest_30 rfl 2 rfl ?_
        refine V.iconst (v := 1) d_Mo_laysLongest_31 (by decide) ?_
        refine V.iadd d_Mo_laysLongest_32 ?_
        refine V.goto (tgt := 37) d_Mo_laysLongest_33 (by decide) ?_
        exact V.pick [0, 1, 3] rfl (J27_37 _ (Option.some.inj h).symm)
def f_Mo_laysLongest (N : Nat) (σ : Mem) (a1 : Int32) : Option (Mem) :=
  letv (sI σ 65 38 0) fun σ2 =>
  letv (sI σ2 65 39 (-2)) fun σ8 =>
  L_Mo_laysLongest_l15 N a1 N 0 0 σ8
set_option maxHeartbeats 4000000 in
set_option maxRecDepth 20000 in
theorem c_Mo_laysLongest (Z : ZX) {N : Nat} {σ : Mem} {a1 : Int32} {σ' : Mem} (h : f_Mo_laysLongest N σ a1 = some σ') : CN Z 1 m_Mo_laysLongest [rf Z 65, .int a1] σ σ' := by
  refine Ct.of (by decide +kernel) (Nat.le_of_ble_eq_true rfl) (fun Y => ?_)
  show V (mkB Z) Y m_Mo_laysLongest 1 (QP (mkB Z) Y nC 0 0 (fun v t => v = none ∧ t = σ')) 0 0 nC σ 0 [(0, rf Z 65), (1, .int a1)] []
  unfold f_Mo_laysLongest at h
  refine V.aload_n d_Mo_laysLongest_0 rfl 0 rfl ?_
  refine V.iconst (v := 0) d_Mo_laysLongest_1 (by decide) ?_
  obtain ⟨σ2, e_σ2, h⟩ := letv_e h
  refine V.putI ok_Mo fl_Mo_394 (by decide) (by decide) ly_65 rfl rfl rfl rfl d_Mo_laysLongest_2 (V.mem e_σ2 ?_)
  refine V.aload_n d_Mo_laysLongest_5 rfl 0 rfl ?_
  refine V.bipush (v := (-2)) d_Mo_laysLongest_6 (by decide) ?_
  obtain ⟨σ8, e_σ8, h⟩ := letv_e h
  refine V.putI ok_Mo fl_Mo_397 (by decide) (by decide) ly_65 rfl rfl rfl rfl d_Mo_laysLongest_8 (V.mem e_σ8 ?_)
  refine V.iconst (v := 0) d_Mo_laysLongest_11 (by decide) ?_
  refine V.istore_n (lv' := [(2, .int 0), (0, rf Z 65), (1, .int a1)]) d_Mo_laysLongest_12 rfl (by decide) rfl ?_
  refine V.iconst (v := 0) d_Mo_laysLongest_13 (by decide) ?_
  refine V.istore_n (lv' := [(3, .int 0), (2, .int 0), (0, rf Z 65), (1, .int a1)]) d_Mo_laysLongest_14 rfl (by decide) rfl ?_
  refine V.pick [2, 3, 1, 0] rfl (cL_Mo_laysLongest_l15 Z (Good := fun z => z = _) (fun r15m he => ?_) N _ _ _ _ h rfl)
  · cases he
    exact ⟨rfl, rfl⟩
abbrev m_Mo_longest : MI := (⟨"ShadeTownModel", "longest", "(III)I"⟩, prog_13_method_71_code, 4, (Option.some Jvm.ClassFile.FieldType.int))
theorem d_Mo_longest_0 : decode prog_13_method_71_code 0 = .ok (.iload_n 1, 1) := by decide +kernel
theorem d_Mo_longest_1 : decode prog_13_method_71_code 1 = .ok (.iload_n 2, 1) := by decide +kernel
theorem d_Mo_longest_2 : decode prog_13_method_71_code 2 = .ok (.invokestatic 185, 3) := by decide +kernel
theorem d_Mo_longest_17 : decode prog_13_method_71_code 17 = .ok (.iconst (-1), 1) := by decide +kernel
theorem d_Mo_longest_18 : decode prog_13_method_71_code 18 = .ok (.ireturn, 1) := by decide +kernel
theorem d_Mo_longest_8 : decode prog_13_method_71_code 8 = .ok (.iload_n 3, 1) := by decide +kernel
theorem d_Mo_longest_9 : decode prog_13_method_71_code 9 = .ok (.iconst 0, 1) := by decide +kernel
theorem d_Mo_longest_10 : decode prog_13_method_71_code 10 = .ok (.iconst 1, 1) := by decide +kernel
theorem d_Mo_longest_11 : decode prog_13_method_71_code 11 = .ok (.invokestatic 188, 3) := by decide +kernel
theorem d_Mo_longest_19 : decode prog_13_method_71_code 19 = .ok (.aload_n 0, 1) := by decide +kernel
theorem d_Mo_longest_20 : decode prog_13_method_71_code 20 = .ok (.invokevirtual 370, 3) := by decide +kernel
theorem d_Mo_longest_23 : decode prog_13_method_71_code 23 = .ok (.aload_n 0, 1) := by decide +kernel
theorem d_Mo_longest_24 : decode prog_13_method_71_code 24 = .ok (.bipush 12, 2) := by decide +kernel
theorem d_Mo_longest_26 : decode prog_13_method_71_code 26 = .ok (.iload_n 2, 1) := by decide +kernel
theorem d_Mo_longest_27 : decode prog_13_method_71_code 27 = .ok (.imul, 1) := by decide +kernel
theorem d_Mo_longest_28 : decode prog_13_method_71_code 28 = .ok (.iload_n 1, 1) := by decide +kernel
theorem d_Mo_longest_29 : decode prog_13_method_71_code 29 = .ok (.iadd, 1) := by decide +kernel
theorem d_Mo_longest_30 : decode prog_13_method_71_code 30 = .ok (.invokevirtual 400, 3) := by decide +kernel
theorem k_Mo_laysLongest : MOk m_Mo_laysLongest 1 ∧ IOk m_Mo_laysLongest := ⟨⟨atG 1838 (by decide +kernel) rfl, atG 122 (by decide +kernel) rfl, ⟨by decide, by decide⟩, by decide +kernel, by decide⟩, atG 1837 (by decide +kernel) rfl, atG 82 (by decide +kernel) rfl⟩
theorem lk_Mo_400 : Cond.methodLink "ShadeTownModel" 400 ⟨"ShadeTownModel", "laysLongest", "(I)V"⟩ ∈ tblG := atG 1835 (by decide +kernel) rfl
theorem d_Mo_longest_33 : decode prog_13_method_71_code 33 = .ok (.iload_n 3, 1) := by decide +kernel
theorem d_Mo_longest_44 : decode prog_13_method_71_code 44 = .ok (.aload_n 0, 1) := by decide +kernel
theorem d_Mo_longest_45 : decode prog_13_method_71_code 45 = .ok (.getfield 397, 3) := by decide +kernel
theorem d_Mo_longest_48 : decode prog_13_method_71_code 48 = .ok (.ireturn, 1) := by decide +kernel
theorem d_Mo_longest_37 : decode prog_13_method_71_code 37 = .ok (.aload_n 0, 1) := by decide +kernel
theorem d_Mo_longest_38 : decode prog_13_method_71_code 38 = .ok (.getfield 394, 3) := by decide +kernel
theorem d_Mo_longest_41 : decode prog_13_method_71_code 41 = .ok (.goto 7, 3) := by decide +kernel
theorem d_Mo_longest_34 : decode prog_13_method_71_code 34 = .ok (.ifCond .ne 10, 3) := by decide +kernel
theorem d_Mo_longest_14 : decode prog_13_method_71_code 14 = .ok (.ifCond .ne 5, 3) := by decide +kernel
theorem d_Mo_longest_5 : decode prog_13_method_71_code 5 = .ok (.ifCond .eq 12, 3) := by decide +kernel
def f_Mo_longest (N : Nat) (σ : Mem) (a1 : Int32) (a2 : Int32) (a3 : Int32) : Option (Int32 × Mem) :=
  bnd1 (f_Mo_isIn a1 a2) fun r2 =>
  if r2 = 0 then
    (some ((-1), σ))
  else
    (bnd1 (f_Mo_in a3 0 1) fun r11 =>
    if r11 = 0 then
      (some ((-1), σ))
    else
      (bnd1 (f_Mo_laysDay N σ) fun σ20 =>
      bnd1 (f_Mo_laysLongest N σ20 ((12 * a2) + a1)) fun σ30 =>
      if a3 = 0 then
        (some (mI σ30 65 38, σ30))
      else
        (some (mI σ30 65 39, σ30))))
set_option maxHeartbeats 4000000 in
set_option maxRecDepth 20000 in
theorem c_Mo_longest (Z : ZX) {N : Nat} {σ : Mem} {a1 : Int32} {a2 : Int32} {a3 : Int32} {r : Int32} {σ' : Mem} (h : f_Mo_longest N σ a1 a2 a3 = some (r, σ')) : CI Z 6 m_Mo_longest [rf Z 65, .int a1, .int a2, .int a3] σ r σ' := by
  refine Ct.of (by decide +kernel) (Nat.le_of_ble_eq_true rfl) (fun Y => ?_)
  show V (mkB Z) Y m_Mo_longest 6 (QP (mkB Z) Y nC 0 0 (fun v t => v = some (.int r) ∧ t = σ')) 0 0 nC σ 0 [(0, rf Z 65), (1, .int a1), (2, .int a2), (3, .int a3)] []
  unfold f_Mo_longest at h
  refine V.iload_n d_Mo_longest_0 rfl 1 rfl ?_
  refine V.iload_n d_Mo_longest_1 rfl 2 rfl ?_
  obtain ⟨r2, h1, h⟩ := bnd1_e h
  refine V.sI (as := [.int a1, .int a2]) (st := []) (c_Mo_isIn Z h1) k_Mo_isIn lk_Mo_185 (by decide) rfl rfl (Nat.le_of_ble_eq_true rfl) d_Mo_longest_2 ?_
  refine V.if_eq (tgt := 17) d_Mo_longest_5 (by decide) (fun hc5 => ?_) (fun hc5 => ?_)
  · replace h := ite_t hc5 h
    refine V.iconst (v := (-1)) d_Mo_longest_17 (by decide) ?_
    cases h
    exact V.iret rfl d_Mo_longest_18 ⟨rfl, rfl⟩
  · replace h := ite_f hc5 h
    refine V.iload_n d_Mo_longest_8 rfl 3 rfl ?_
    refine V.iconst (v := 0) d_Mo_longest_9 (by decide) ?_
    refine V.iconst (v := 1) d_Mo_longest_10 (by decide) ?_
    obtain ⟨r11, h1, h⟩ := bnd1_e h
    refine V.sI (as := [.int a3, .int 0, .int 1]) (st := []) (c_Mo_in Z h1) k_Mo_in lk_Mo_188 (by decide) rfl rfl (Nat.le_of_ble_eq_true rfl) d_Mo_longest_11 ?_
    refine V.if_ne (tgt := 19) d_Mo_longest_14 (by decide) (fun hc14 => ?_) (fun hc14 => ?_)
    · replace h := ite_f hc14 h
      refine V.aload_n d_Mo_longest_19 rfl 0 rfl ?_
      obtain ⟨σ20, h1, h⟩ := bnd1_e h
      refine V.vN (as := []) (st := []) (c_Mo_laysDay Z h1) k_Mo_laysDay lk_Mo_370 (by decide) rfl (by decide) ly_65 ok_Mo.1 rfl (Nat.le_of_ble_eq_true rfl) d_Mo_longest_20 ?_
      refine V.aload_n d_Mo_longest_23 rfl 0 rfl ?_
      refine V.bipush (v := 12) d_Mo_longest_24 (by decide) ?_
      refine V.iload_n d_Mo_longest_26 rfl 2 rfl ?_
      refine V.imul d_Mo_longest_27 ?_
      refine V.iload_n d_Mo_longest_28 rfl 1 rfl ?_
      refine V.iadd d_Mo_longest_29 ?_
      obtain ⟨σ30, h1, h⟩ := bnd1_e h
      refine V.vN (as := [.int ((12 * a2) + a1)]) (st := []) (c_Mo_laysLongest Z h1) k_Mo_laysLongest lk_Mo_400 (by decide) rfl (by decide) ly_65 ok_Mo.1 rfl (Nat.le_of_ble_eq_true rfl) d_Mo_longest_30 ?_
      refine V.iload_n d_Mo_longest_33 rfl 3 rfl ?_
      refine V.if_ne (tgt := 44) d_Mo_longest_34 (by decide) (fun hc34 => ?_) (fun hc34 => ?_)
      · replace h := ite_f hc34 h
        refine V.aload_n d_Mo_longest_44 rfl 0 rfl ?_
        refine V.getI ok_Mo fl_Mo_397 (by decide) (by decide) ly_65 rfl d_Mo_longest_45 ?_
        cases h
        exact V.iret rfl d_Mo_longest_48 ⟨rfl, rfl⟩
      · replace h := ite_t hc34 h
        refine V.aload_n d_Mo_longest_37 rfl 0 rfl ?_
        refine V.getI ok_Mo fl_Mo_394 (by decide) (by decide) ly_65 rfl d_Mo_longest_38 ?_
        refine V.goto (tgt := 48) d_Mo_longest_41 (by decide) ?_
        cases h
        exact V.iret rfl d_Mo_longest_48 ⟨rfl, rfl⟩
    · replace h := ite_t hc14 h
      refine V.iconst (v := (-1)) d_Mo_longest_17 (by decide) ?_
      cases h
      exact V.iret rfl d_Mo_longest_18 ⟨rfl, rfl⟩
abbrev m_Mo_donkey : MI := (⟨"ShadeTownModel", "donkey", "(I)I"⟩, prog_13_method_72_code, 5, (Option.some Jvm.ClassFile.FieldType.int))
theorem d_Mo_donkey_0 : decode prog_13_method_72_code 0 = .ok (.iload_n 1, 1) := by decide +kernel
theorem d_Mo_donkey_1 : decode prog_13_method_72_code 1 = .ok (.iconst 0, 1) := by decide +kernel
theorem d_Mo_donkey_2 : decode prog_13_method_72_code 2 = .ok (.iconst 1, 1) := by decide +kernel
theorem d_Mo_donkey_3 : decode prog_13_method_72_code 3 = .ok (.invokestatic 188, 3) := by decide +kernel
theorem d_Mo_donkey_11 : decode prog_13_method_72_code 11 = .ok (.aload_n 0, 1) := by decide +kernel
theorem d_Mo_donkey_12 : decode prog_13_method_72_code 12 = .ok (.invokevirtual 370, 3) := by decide +kernel
theorem d_Mo_donkey_15 : decode prog_13_method_72_code 15 = .ok (.bipush (-2), 2) := by decide +kernel
theorem d_Mo_donkey_17 : decode prog_13_method_72_code 17 = .ok (.istore_n 2, 1) := by decide +kernel
theorem d_Mo_donkey_18 : decode prog_13_method_72_code 18 = .ok (.iconst (-1), 1) := by decide +kernel
theorem d_Mo_donkey_19 : decode prog_13_method_72_code 19 = .ok (.istore_n 3, 1) := by decide +kernel
theorem d_Mo_donkey_20 : decode prog_13_method_72_code 20 = .ok (.bipush 12, 2) := by decide +kernel
theorem d_Mo_donkey_22 : decode prog_13_method_72_code 22 = .ok (.istore 4, 2) := by decide +kernel
theorem d_Mo_donkey_24 : decode prog_13_method_72_code 24 = .ok (.iload 4, 2) := by decide +kernel
theorem d_Mo_donkey_26 : decode prog_13_method_72_code 26 = .ok (.sipush 144, 3) := by decide +kernel
theorem d_Mo_donkey_32 : decode prog_13_method_72_code 32 = .ok (.aload_n 0, 1) := by decide +kernel
theorem d_Mo_donkey_33 : decode prog_13_method_72_code 33 = .ok (.getfield 78, 3) := by decide +kernel
theorem d_Mo_donkey_36 : decode prog_13_method_72_code 36 = .ok (.iload 4, 2) := by decide +kernel
theorem d_Mo_donkey_38 : decode prog_13_method_72_code 38 = .ok (.baload, 1) := by decide +kernel
theorem d_Mo_donkey_42 : decode prog_13_method_72_code 42 = .ok (.aload_n 0, 1) := by decide +kernel
theorem d_Mo_donkey_43 : decode prog_13_method_72_code 43 = .ok (.getfield 78, 3) := by decide +kernel
theorem d_Mo_donkey_46 : decode prog_13_method_72_code 46 = .ok (.iload 4, 2) := by decide +kernel
theorem d_Mo_donkey_48 : decode prog_13_method_72_code 48 = .ok (.bipush 12, 2) := by decide +kernel
theorem d_Mo_donkey_50 : decode prog_13_method_72_code 50 = .ok (.isub, 1) := by decide +kernel
theorem d_Mo_donkey_51 : decode prog_13_method_72_code 51 = .ok (.baload, 1) := by decide +kernel
theorem d_Mo_donkey_58 : decode prog_13_method_72_code 58 = .ok (.aload_n 0, 1) := by decide +kernel
theorem d_Mo_donkey_59 : decode prog_13_method_72_code 59 = .ok (.iload 4, 2) := by decide +kernel
theorem d_Mo_donkey_61 : decode prog_13_method_72_code 61 = .ok (.invokevirtual 400, 3) := by decide +kernel
theorem d_Mo_donkey_64 : decode prog_13_method_72_code 64 = .ok (.aload_n 0, 1) := by decide +kernel
theorem d_Mo_donkey_65 : decode prog_13_method_72_code 65 = .ok (.getfield 394, 3) := by decide +kernel
theorem d_Mo_donkey_68 : decode prog_13_method_72_code 68 = .ok (.iload_n 3, 1) := by decide +kernel
theorem d_Mo_donkey_75 : decode prog_13_method_72_code 75 = .ok (.aload_n 0, 1) := by decide +kernel
theorem d_Mo_donkey_76 : decode prog_13_method_72_code 76 = .ok (.getfield 394, 3) := by decide +kernel
theorem d_Mo_donkey_79 : decode prog_13_method_72_code 79 = .ok (.istore_n 3, 1) := by decide +kernel
theorem d_Mo_donkey_80 : decode prog_13_method_72_code 80 = .ok (.iload 4, 2) := by decide +kernel
theorem d_Mo_donkey_82 : decode prog_13_method_72_code 82 = .ok (.istore_n 2, 1) := by decide +kernel
theorem d_Mo_donkey_72 : decode prog_13_method_72_code 72 = .ok (.goto 11, 3) := by decide +kernel
theorem d_Mo_donkey_69 : decode prog_13_method_72_code 69 = .ok (.if_icmp .gt 6, 3) := by decide +kernel
theorem d_Mo_donkey_55 : decode prog_13_method_72_code 55 = .ok (.goto 28, 3) := by decide +kernel
theorem d_Mo_donkey_52 : decode prog_13_method_72_code 52 = .ok (.ifCond .eq 6, 3) := by decide +kernel
theorem d_Mo_donkey_39 : decode prog_13_method_72_code 39 = .ok (.ifCond .eq 44, 3) := by decide +kernel
theorem d_Mo_donkey_83 : decode prog_13_method_72_code 83 = .ok (.iinc 4 1, 3) := by decide +kernel
theorem d_Mo_donkey_86 : decode prog_13_method_72_code 86 = .ok (.goto (-62), 3) := by decide +kernel
theorem d_Mo_donkey_29 : decode prog_13_method_72_code 29 = .ok (.if_icmp .ge 60, 3) := by decide +kernel
theorem d_Mo_donkey_89 : decode prog_13_method_72_code 89 = .ok (.iload_n 2, 1) := by decide +kernel
theorem d_Mo_donkey_90 : decode prog_13_method_72_code 90 = .ok (.bipush (-2), 2) := by decide +kernel
theorem d_Mo_donkey_100 : decode prog_13_method_72_code 100 = .ok (.iload_n 1, 1) := by decide +kernel
theorem d_Mo_donkey_108 : decode prog_13_method_72_code 108 = .ok (.iload_n 3, 1) := by decide +kernel
theorem d_Mo_donkey_109 : decode prog_13_method_72_code 109 = .ok (.ireturn, 1) := by decide +kernel
theorem d_Mo_donkey_104 : decode prog_13_method_72_code 104 = .ok (.iload_n 2, 1) := by decide +kernel
theorem d_Mo_donkey_105 : decode prog_13_method_72_code 105 = .ok (.goto 4, 3) := by decide +kernel
theorem d_Mo_donkey_101 : decode prog_13_method_72_code 101 = .ok (.ifCond .ne 7, 3) := by decide +kernel
theorem d_Mo_donkey_95 : decode prog_13_method_72_code 95 = .ok (.bipush (-2), 2) := by decide +kernel
theorem d_Mo_donkey_97 : decode prog_13_method_72_code 97 = .ok (.goto 12, 3) := by decide +kernel
theorem d_Mo_donkey_92 : decode prog_13_method_72_code 92 = .ok (.if_icmp .ne 8, 3) := by decide +kernel
theorem d_Mo_donkey_9 : decode prog_13_method_72_code 9 = .ok (.iconst (-1), 1) := by decide +kernel
theorem d_Mo_donkey_10 : decode prog_13_method_72_code 10 = .ok (.ireturn, 1) := by decide +kernel
theorem d_Mo_donkey_6 : decode prog_13_method_72_code 6 = .ok (.ifCond .ne 5, 3) := by decide +kernel
def B_Mo_donkey_l24 (N : Nat) (a1 : Int32) (rec : Int32 → Int32 → Int32 → Mem → Option (Int32 × Int32 × Mem)) (x2 : Int32) (x3 : Int32) (x4 : Int32) (σ : Mem) : Option (Int32 × Int32 × Mem) :=
  if 144 ≤ x4 then
    (some (x2, x3, σ))
  else
    (grd (inb x4 144) <|
    bnd1 ((
      if (mI σ 88 (x4.toNatClampNeg)) = 0 then
        (some (x2, x3, σ))
      else
        (grd (inb (x4 - 12) 144) <|
        if (mI σ 88 ((x4 - 12).toNatClampNeg)) = 0 then
          (bnd1 (f_Mo_laysLongest N σ x4) fun σ61 =>
          if x3 < (mI σ61 65 38) then
            (letv (mI σ61 65 38) fun v79 =>
            some (x4, v79, σ61))
          else
            (some (x2, x3, σ61)))
        else
          (some (x2, x3, σ)))) : Option (Int32 × Int32 × Mem)) fun s39 =>
    q3 s39 fun y39_2 y39_3 σ39_ =>
    letv (x4 + 1) fun v83 =>
    rec y39_2 y39_3 v83 σ39_)
def L_Mo_donkey_l24 (N : Nat) (a1 : Int32) : Nat → Int32 → Int32 → Int32 → Mem → Option (Int32 × Int32 × Mem)
  | 0, _, _, _, _ => none
  | k + 1, x2, x3, x4, σ => B_Mo_donkey_l24 N a1 (L_Mo_donkey_l24 N a1 k) x2 x3 x4 σ
set_option maxHeartbeats 4000000 in
set_option maxRecDepth 20000 in
theorem cL_Mo_donkey_l24 (Z : ZX) {Y : YX} {Q : State → Prop} {N : Nat} {a1 : Int32} {Good : Int32 × Int32 × Mem → Prop} (hE : ∀ (o2 : Int32) (o3 : Int32) (σe : Mem), Good (o2, o3, σe) → V (mkB Z) Y m_Mo_donkey 6 Q 0 0 nC σe 89 [(1, .int a1), (2, .int o2), (3, .int o3)] []) : ∀ (k : Nat) (x2 : Int32) (x3 : Int32) (x4 : Int32) (σ : Mem) (res : Int32 × Int32 × Mem), L_Mo_donkey_l24 N a1 k x2 x3 x4 σ = some res → Good res → V (mkB Z) Y m_Mo_donkey 6 Q 0 0 nC σ 24 [(0, rf Z 65), (1, .int a1), (2, .int x2), (3, .int x3), (4, .int x4)] [] := by
  intro k
  induction k with
  | zero => intro x2 x3 x4 σ res h; cases h
  | succ k ih =>
    intro x2 x3 x4 σ res h hg
    replace h : B_Mo_donkey_l24 N a1 (L_Mo_donkey_l24 N a1 k) x2 x3 x4 σ = some res := h
    unfold B_Mo_donkey_l24 at h
    refine V.iload d_Mo_donkey_24 4 rfl ?_
    refine V.sipush (v := 144) d_Mo_donkey_26 (by decide) ?_
    refine V.icmp_ge (tgt := 89) d_Mo_donkey_29 (by decide) (fun hc29 => ?_) (fun hc29 => ?_)
    · replace h := ite_t hc29 h
      cases h
      exact V.pick [1, 2, 3] rfl (hE _ _ _ hg)
    · replace h := ite_f hc29 h
      refine V.aload_n d_Mo_donkey_32 rfl 0 rfl ?_
      refine V.getR (r := 88) ok_Mo fl_Mo_78 (by decide) (by decide) ly_65 rfl d_Mo_donkey_33 ?_
      refine V.iload d_Mo_donkey_36 4 rfl ?_
      obtain ⟨gq, h⟩ := grd_e h
      refine V.rz (by decide) ly_88 (inb_e gq) rfl d_Mo_donkey_38 ?_
      obtain ⟨s39, h1, h⟩ := bnd1_e h
      have J39_83 : ∀ (y39_2 : Int32) (y39_3 : Int32) (σ39_ : Mem), s39 = (y39_2, y39_3, σ39_) → V (mkB Z) Y m_Mo_donkey 6 Q 0 0 nC σ39_ 83 [(0, rf Z 65), (1, .int a1), (2, .int y39_2), (3, .int y39_3), (4, .int x4)] [] := by
        intro y39_2 y39_3 σ39_ he
        rw [he] at h
        replace h := q3_e h
        obtain ⟨v83, e_v83, h⟩ := letv_e h
        refine V.iinc (v := v83) (lv' := [(4, .int v83), (0, rf Z 65), (1, .int a1), (2, .int y39_2), (3, .int y39_3)]) d_Mo_donkey_83 4 rfl (by rw [e_v83]; rfl) (by decide) rfl ?_
        refine V.goto (tgt := 24) d_Mo_donkey_86 (by decide) ?_
        exact V.pick [1, 2, 3, 4, 0] rfl (ih _ _ _ _ _ h hg)
      replace h := h1
      refine V.if_eq (tgt := 83) d_Mo_donkey_39 (by decide) (fun hc39 => ?_) (fun hc39 => ?_)
      · replace h := ite_t hc39 h
        exact V.pick [0, 1, 2, 3, 4] rfl (J39_83 _ _ _ (Option.some.inj h).symm)
      · replace h := ite_f hc39 h
        refine V.aload_n d_Mo_donkey_42 rfl 0 rfl ?_
        refine V.getR (r := 88) ok_Mo fl_Mo_78 (by decide) (by decide) ly_65 rfl d_Mo_donkey_43 ?_
        refine V.iload d_Mo_donkey_46 4 rfl ?_
        refine V.bipush (v := 12) d_Mo_donkey_48 (by decide) ?_
        refine V.isub d_Mo_donkey_50 ?_
        obtain ⟨gq, h⟩ := grd_e h
        refine V.rz (by decide) ly_88 (inb_e gq) rfl d_Mo_donkey_51 ?_
        refine V.if_eq (tgt := 58) d_Mo_donkey_52 (by decide) (fun hc52 => ?_) (fun hc52 => ?_)
        · replace h := ite_t hc52 h
          refine V.aload_n d_Mo_donkey_58 rfl 0 rfl ?_
          refine V.iload d_Mo_donkey_59 4 rfl ?_
          obtain ⟨σ61, h1, h⟩ := bnd1_e h
          refine V.vN (as := [.int x4]) (st := []) (c_Mo_laysLongest Z h1) k_Mo_laysLongest lk_Mo_400 (by decide) rfl (by decide) ly_65 ok_Mo.1 rfl (Nat.le_of_ble_eq_true rfl) d_Mo_donkey_61 ?_
          refine V.aload_n d_Mo_donkey_64 rfl 0 rfl ?_
          refine V.getI ok_Mo fl_Mo_394 (by decide) (by decide) ly_65 rfl d_Mo_donkey_65 ?_
          refine V.iload_n d_Mo_donkey_68 rfl 3 rfl ?_
          refine V.icmp_gt (tgt := 75) d_Mo_donkey_69 (by decide) (fun hc69 => ?_) (fun hc69 => ?_)
          · replace h := ite_t hc69 h
            refine V.aload_n d_Mo_donkey_75 rfl 0 rfl ?_
            refine V.getI ok_Mo fl_Mo_394 (by decide) (by decide) ly_65 rfl d_Mo_donkey_76 ?_
            obtain ⟨v79, e_v79, h⟩ := letv_e h
            refine V.topI e_v79 ?_
            refine V.istore_n (lv' := [(3, .int v79), (0, rf Z 65), (1, .int a1), (2, .int x2), (4, .int x4)]) d_Mo_donkey_79 rfl (by decide) rfl ?_
            refine V.iload d_Mo_donkey_80 4 rfl ?_
            refine V.istore_n (lv' := [(2, .int x4), (3, .int v79), (0, rf Z 65), (1, .int a1), (4, .int x4)]) d_Mo_donkey_82 rfl (by decide) rfl ?_
            exact V.pick [2, 3, 0, 1, 4] rfl (J39_83 _ _ _ (Option.some.inj h).symm)
          · replace h := ite_f hc69 h
            refine V.goto (tgt := 83) d_Mo_donkey_72 (by decide) ?_
            exact V.pick [0, 1, 2, 3, 4] rfl (J39_83 _ _ _ (Option.some.inj h).symm)
        · replace h := ite_f hc52 h
          refine V.goto (tgt := 83) d_Mo_donkey_55 (by decide) ?_
          exact V.pick [0, 1, 2, 3, 4] rfl (J39_83 _ _ _ (Option.some.inj h).symm)
def f_Mo_donkey (N : Nat) (σ : Mem) (a1 : Int32) : Option (Int32 × Mem) :=
  bnd1 (f_Mo_in a1 0 1) fun r3 =>
  if r3 = 0 then
    (some ((-1), σ))
  else
    (bnd1 (f_Mo_laysDay N σ) fun σ12 =>
    bnd1 (L_Mo_donkey_l24 N a1 N (-2) (-1) 12 σ12) fun x24_ =>
    q3 x24_ fun z24_2 z24_3 σ24_ =>
    if z24_2 = (-2) then
      (some ((-2), σ24_))
    else
      (if a1 = 0 then
        (some (z24_2, σ24_))
      else
        (some (z24_3, σ24_))))
set_option maxHeartbeats 4000000 in
set_option maxRecDepth 20000 in
theorem c_Mo_donkey (Z : ZX) {N : Nat} {σ : Mem} {a1 : Int32} {r : Int32} {σ' : Mem} (h : f_Mo_donkey N σ a1 = some (r, σ')) : CI Z 6 m_Mo_donkey [rf Z 65, .int a1] σ r σ' := by
  refine Ct.of (by decide +kernel) (Nat.le_of_ble_eq_true rfl) (fun Y => ?_)
  show V (mkB Z) Y m_Mo_donkey 6 (QP (mkB Z) Y nC 0 0 (fun v t => v = some (.int r) ∧ t = σ')) 0 0 nC σ 0 [(0, rf Z 65), (1, .int a1)] []
  unfold f_Mo_donkey at h
  refine V.iload_n d_Mo_donkey_0 rfl 1 rfl ?_
  refine V.iconst (v := 0) d_Mo_donkey_1 (by decide) ?_
  refine V.iconst (v := 1) d_Mo_donkey_2 (by decide) ?_
  obtain ⟨r3, h1, h⟩ := bnd1_e h
  refine V.sI (as := [.int a1, .int 0, .int 1]) (st := []) (c_Mo_in Z h1) k_Mo_in lk_Mo_188 (by decide) rfl rfl (Nat.le_of_ble_eq_true rfl) d_Mo_donkey_3 ?_
  refine V.if_ne (tgt := 11) d_Mo_donkey_6 (by decide) (fun hc6 => ?_) (fun hc6 => ?_)
  · replace h := ite_f hc6 h
    refine V.aload_n d_Mo_donkey_11 rfl 0 rfl ?_
    obtain ⟨σ12, h1, h⟩ := bnd1_e h
    refine V.vN (as := []) (st := []) (c_Mo_laysDay Z h1) k_Mo_laysDay lk_Mo_370 (by decide) rfl (by decide) ly_65 ok_Mo.1 rfl (Nat.le_of_ble_eq_true rfl) d_Mo_donkey_12 ?_
    refine V.bipush (v := (-2)) d_Mo_donkey_15 (by decide) ?_
    refine V.istore_n (lv' := [(2, .int (-2)), (0, rf Z 65), (1, .int a1)]) d_Mo_donkey_17 rfl (by decide) rfl ?_
    refine V.iconst (v := (-1)) d_Mo_donkey_18 (by decide) ?_
    refine V.istore_n (lv' := [(3, .int (-1)), (2, .int (-2)), (0, rf Z 65), (1, .int a1)]) d_Mo_donkey_19 rfl (by decide) rfl ?_
    refine V.bipush (v := 12) d_Mo_donkey_20 (by decide) ?_
    refine V.istore (lv' := [(4, .int 12), (3, .int (-1)), (2, .int (-2)), (0, rf Z 65), (1, .int a1)]) d_Mo_donkey_22 (by decide) rfl ?_
    obtain ⟨x24_, h1, h⟩ := bnd1_e h
    refine V.pick [3, 4, 2, 1, 0] rfl (cL_Mo_donkey_l24 Z (Good := fun z => x24_ = z) (fun z24_2 z24_3 σ24_ he => ?_) N _ _ _ _ _ h1 rfl)
    · rw [he] at h
      replace h := q3_e h
      refine V.iload_n d_Mo_donkey_89 rfl 1 rfl ?_
      refine V.bipush (v := (-2)) d_Mo_donkey_90 (by decide) ?_
      refine V.icmp_ne (tgt := 100) d_Mo_donkey_92 (by decide) (fun hc92 => ?_) (fun hc92 => ?_)
      · replace h := ite_f hc92 h
        refine V.iload_n d_Mo_donkey_100 rfl 0 rfl ?_
        refine V.if_ne (tgt := 108) d_Mo_donkey_101 (by decide) (fun hc101 => ?_) (fun hc101 => ?_)
        · replace h := ite_f hc101 h
          refine V.iload_n d_Mo_donkey_108 rfl 2 rfl ?_
          cases h
          exact V.iret rfl d_Mo_donkey_109 ⟨rfl, rfl⟩
        · replace h := ite_t hc101 h
          refine V.iload_n d_Mo_donkey_104 rfl 1 rfl ?_
          refine V.goto (tgt := 109) d_Mo_donkey_105 (by decide) ?_
          cases h
          exact V.iret rfl d_Mo_donkey_109 ⟨rfl, rfl⟩
      · replace h := ite_t hc92 h
        refine V.bipush (v := (-2)) d_Mo_donkey_95 (by decide) ?_
        refine V.goto (tgt := 109) d_Mo_donkey_97 (by decide) ?_
        cases h
        exact V.iret rfl d_Mo_donkey_109 ⟨rfl, rfl⟩
  · replace h := ite_t hc6 h
    refine V.iconst (v := (-1)) d_Mo_donkey_9 (by decide) ?_
    cases h
    exact V.iret rfl d_Mo_donkey_10 ⟨rfl, rfl⟩
