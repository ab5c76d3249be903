abbrev m_Mo_storey : MI := (⟨"ShadeTownModel", "storey", "(II)I"⟩, prog_13_method_103_code, 6, (Option.some Jvm.ClassFile.FieldType.int))
theorem d_Mo_storey_0 : decode prog_13_method_103_code 0 = .ok (.aload_n 0, 1) := by decide +kernel
theorem d_Mo_storey_1 : decode prog_13_method_103_code 1 = .ok (.iload_n 1, 1) := by decide +kernel
theorem d_Mo_storey_2 : decode prog_13_method_103_code 2 = .ok (.invokevirtual 199, 3) := by decide +kernel
theorem kc_Mo_499 : Cond.constant "ShadeTownModel" 499 ((-100000)) ∈ tblG := atG 1967 (by decide +kernel) rfl
theorem d_Mo_storey_26 : decode prog_13_method_103_code 26 = .ok (.ldc_w 499, 3) := by decide +kernel
theorem d_Mo_storey_29 : decode prog_13_method_103_code 29 = .ok (.ireturn, 1) := by decide +kernel
theorem d_Mo_storey_8 : decode prog_13_method_103_code 8 = .ok (.aload_n 0, 1) := by decide +kernel
theorem d_Mo_storey_9 : decode prog_13_method_103_code 9 = .ok (.getfield 7, 3) := by decide +kernel
theorem d_Mo_storey_12 : decode prog_13_method_103_code 12 = .ok (.iload_n 1, 1) := by decide +kernel
theorem d_Mo_storey_13 : decode prog_13_method_103_code 13 = .ok (.iaload, 1) := by decide +kernel
theorem d_Mo_storey_17 : decode prog_13_method_103_code 17 = .ok (.iload_n 2, 1) := by decide +kernel
theorem d_Mo_storey_18 : decode prog_13_method_103_code 18 = .ok (.iconst 0, 1) := by decide +kernel
theorem d_Mo_storey_19 : decode prog_13_method_103_code 19 = .ok (.iconst 1, 1) := by decide +kernel
theorem d_Mo_storey_20 : decode prog_13_method_103_code 20 = .ok (.invokestatic 188, 3) := by decide +kernel
theorem d_Mo_storey_30 : decode prog_13_method_103_code 30 = .ok (.aload_n 0, 1) := by decide +kernel
theorem d_Mo_storey_31 : decode prog_13_method_103_code 31 = .ok (.invokevirtual 370, 3) := by decide +kernel
theorem d_Mo_storey_34 : decode prog_13_method_103_code 34 = .ok (.aload_n 0, 1) := by decide +kernel
theorem d_Mo_storey_35 : decode prog_13_method_103_code 35 = .ok (.iconst 0, 1) := by decide +kernel
theorem d_Mo_storey_36 : decode prog_13_method_103_code 36 = .ok (.putfield 480, 3) := by decide +kernel
theorem d_Mo_storey_39 : decode prog_13_method_103_code 39 = .ok (.aload_n 0, 1) := by decide +kernel
theorem d_Mo_storey_40 : decode prog_13_method_103_code 40 = .ok (.iload_n 2, 1) := by decide +kernel
theorem d_Mo_storey_41 : decode prog_13_method_103_code 41 = .ok (.iconst 1, 1) := by decide +kernel
theorem d_Mo_storey_49 : decode prog_13_method_103_code 49 = .ok (.iconst 0, 1) := by decide +kernel
theorem d_Mo_storey_45 : decode prog_13_method_103_code 45 = .ok (.iconst 1, 1) := by decide +kernel
theorem d_Mo_storey_46 : decode prog_13_method_103_code 46 = .ok (.goto 4, 3) := by decide +kernel
theorem d_Mo_storey_42 : decode prog_13_method_103_code 42 = .ok (.if_icmp .ne 7, 3) := by decide +kernel
theorem d_Mo_storey_50 : decode prog_13_method_103_code 50 = .ok (.invokevirtual 492, 3) := by decide +kernel
theorem d_Mo_storey_53 : decode prog_13_method_103_code 53 = .ok (.istore_n 3, 1) := by decide +kernel
theorem d_Mo_storey_54 : decode prog_13_method_103_code 54 = .ok (.aload_n 0, 1) := by decide +kernel
theorem d_Mo_storey_55 : decode prog_13_method_103_code 55 = .ok (.getfield 16, 3) := by decide +kernel
theorem d_Mo_storey_58 : decode prog_13_method_103_code 58 = .ok (.iload_n 1, 1) := by decide +kernel
theorem d_Mo_storey_59 : decode prog_13_method_103_code 59 = .ok (.iaload, 1) := by decide +kernel
theorem d_Mo_storey_60 : decode prog_13_method_103_code 60 = .ok (.istore 4, 2) := by decide +kernel
theorem d_Mo_storey_62 : decode prog_13_method_103_code 62 = .ok (.aload_n 0, 1) := by decide +kernel
theorem d_Mo_storey_63 : decode prog_13_method_103_code 63 = .ok (.getfield 16, 3) := by decide +kernel
theorem d_Mo_storey_66 : decode prog_13_method_103_code 66 = .ok (.iload_n 1, 1) := by decide +kernel
theorem d_Mo_storey_67 : decode prog_13_method_103_code 67 = .ok (.bipush 99, 2) := by decide +kernel
theorem d_Mo_storey_69 : decode prog_13_method_103_code 69 = .ok (.iload 4, 2) := by decide +kernel
theorem d_Mo_storey_71 : decode prog_13_method_103_code 71 = .ok (.bipush 12, 2) := by decide +kernel
theorem d_Mo_storey_73 : decode prog_13_method_103_code 73 = .ok (.iadd, 1) := by decide +kernel
theorem d_Mo_storey_74 : decode prog_13_method_103_code 74 = .ok (.invokestatic 342, 3) := by decide +kernel
theorem d_Mo_storey_77 : decode prog_13_method_103_code 77 = .ok (.iastore, 1) := by decide +kernel
theorem d_Mo_storey_78 : decode prog_13_method_103_code 78 = .ok (.aload_n 0, 1) := by decide +kernel
theorem d_Mo_storey_79 : decode prog_13_method_103_code 79 = .ok (.invokevirtual 370, 3) := by decide +kernel
theorem d_Mo_storey_82 : decode prog_13_method_103_code 82 = .ok (.aload_n 0, 1) := by decide +kernel
theorem d_Mo_storey_83 : decode prog_13_method_103_code 83 = .ok (.iload_n 2, 1) := by decide +kernel
theorem d_Mo_storey_84 : decode prog_13_method_103_code 84 = .ok (.iconst 1, 1) := by decide +kernel
theorem d_Mo_storey_92 : decode prog_13_method_103_code 92 = .ok (.iconst 0, 1) := by decide +kernel
theorem d_Mo_storey_88 : decode prog_13_method_103_code 88 = .ok (.iconst 1, 1) := by decide +kernel
theorem d_Mo_storey_89 : decode prog_13_method_103_code 89 = .ok (.goto 4, 3) := by decide +kernel
theorem d_Mo_storey_85 : decode prog_13_method_103_code 85 = .ok (.if_icmp .ne 7, 3) := by decide +kernel
theorem d_Mo_storey_93 : decode prog_13_method_103_code 93 = .ok (.invokevirtual 492, 3) := by decide +kernel
theorem d_Mo_storey_96 : decode prog_13_method_103_code 96 = .ok (.istore 5, 2) := by decide +kernel
theorem d_Mo_storey_98 : decode prog_13_method_103_code 98 = .ok (.aload_n 0, 1) := by decide +kernel
theorem d_Mo_storey_99 : decode prog_13_method_103_code 99 = .ok (.getfield 16, 3) := by decide +kernel
theorem d_Mo_storey_102 : decode prog_13_method_103_code 102 = .ok (.iload_n 1, 1) := by decide +kernel
theorem d_Mo_storey_103 : decode prog_13_method_103_code 103 = .ok (.iload 4, 2) := by decide +kernel
theorem d_Mo_storey_105 : decode prog_13_method_103_code 105 = .ok (.iastore, 1) := by decide +kernel
theorem d_Mo_storey_106 : decode prog_13_method_103_code 106 = .ok (.iload_n 2, 1) := by decide +kernel
theorem d_Mo_storey_117 : decode prog_13_method_103_code 117 = .ok (.iload_n 3, 1) := by decide +kernel
theorem d_Mo_storey_118 : decode prog_13_method_103_code 118 = .ok (.iload 5, 2) := by decide +kernel
theorem d_Mo_storey_120 : decode prog_13_method_103_code 120 = .ok (.isub, 1) := by decide +kernel
theorem d_Mo_storey_121 : decode prog_13_method_103_code 121 = .ok (.ireturn, 1) := by decide +kernel
theorem d_Mo_storey_110 : decode prog_13_method_103_code 110 = .ok (.iload 5, 2) := by decide +kernel
theorem d_Mo_storey_112 : decode prog_13_method_103_code 112 = .ok (.iload_n 3, 1) := by decide +kernel
theorem d_Mo_storey_113 : decode prog_13_method_103_code 113 = .ok (.isub, 1) := by decide +kernel
theorem d_Mo_storey_114 : decode prog_13_method_103_code 114 = .ok (.goto 7, 3) := by decide +kernel
theorem d_Mo_storey_107 : decode prog_13_method_103_code 107 = .ok (.ifCond .ne 10, 3) := by decide +kernel
theorem d_Mo_storey_23 : decode prog_13_method_103_code 23 = .ok (.ifCond .ne 7, 3) := by decide +kernel
theorem d_Mo_storey_14 : decode prog_13_method_103_code 14 = .ok (.ifCond .ne 12, 3) := by decide +kernel
theorem d_Mo_storey_5 : decode prog_13_method_103_code 5 = .ok (.ifCond .eq 21, 3) := by decide +kernel
def f_Mo_storey (N : Nat) (σ : Mem) (a1 : Int32) (a2 : Int32) : Option (Int32 × Mem) :=
  bnd1 (f_Mo_stands σ a1) fun r2 =>
  if r2 = 0 then
    (some ((-100000), σ))
  else
    (grd (inb a1 17) <|
    if (mI σ 66 (a1.toNatClampNeg)) = 0 then
      (bnd1 (f_Mo_in a2 0 1) fun r20 =>
      if r20 = 0 then
        (some ((-100000), σ))
      else
        (bnd1 (f_Mo_laysDay N σ) fun σ31 =>
        letv (sI σ31 65 62 0) fun σ36 =>
        bnd1 ((
          if a2 = 1 then
            (some 1)
          else
            (some 0)) : Option (Int32)) fun y42_s1 =>
        bnd1 (f_Mo_happyBy N σ36 y42_s1) fun r50 =>
        grd (inb a1 17) <|
        letv (mI σ36 68 (a1.toNatClampNeg)) fun v60 =>
        bnd1 (f_Mo_min 99 (v60 + 12)) fun r74 =>
        grd (inb a1 17) <|
        letv (sI σ36 68 (a1.toNatClampNeg) r74) fun σ77 =>
        bnd1 (f_Mo_laysDay N σ77) fun σ79 =>
        bnd1 ((
          if a2 = 1 then
            (some 1)
          else
            (some 0)) : Option (Int32)) fun y85_s1 =>
        bnd1 (f_Mo_happyBy N σ79 y85_s1) fun r93 =>
        grd (inb a1 17) <|
        letv (sI σ79 68 (a1.toNatClampNeg) v60) fun σ105 =>
        if a2 = 0 then
          (some (r93 - r50, σ105))
        else
          (some (r50 - r93, σ105))))
    else
      (some ((-100000), σ)))
set_option maxHeartbeats 4000000 in
set_option maxRecDepth 20000 in
theorem c_Mo_storey (Z : ZX) {N : Nat} {σ : Mem} {a1 : Int32} {a2 : Int32} {r : Int32} {σ' : Mem} (h : f_Mo_storey N σ a1 a2 = some (r, σ')) : CI Z 6 m_Mo_storey [rf Z 65, .int a1, .int a2] σ r σ' := by
  refine Ct.of (by decide +kernel) (Nat.le_of_ble_eq_true rfl) (fun Y => ?_)
  show V (mkB Z) Y m_Mo_storey 6 (QP (mkB Z) Y nC 0 0 (fun v t => v = some (.int r) ∧ t = σ')) 0 0 nC σ 0 [(0, rf Z 65), (1, .int a1), (2, .int a2)] []
  unfold f_Mo_storey at h
  refine V.aload_n d_Mo_storey_0 rfl 0 rfl ?_
  refine V.iload_n d_Mo_storey_1 rfl 1 rfl ?_
  obtain ⟨r2, h1, h⟩ := bnd1_e h
  refine V.vI (as := [.int a1]) (st := []) (c_Mo_stands Z h1) k_Mo_stands lk_Mo_199 (by decide) rfl (by decide) ly_65 ok_Mo.1 rfl (Nat.le_of_ble_eq_true rfl) d_Mo_storey_2 ?_
  refine V.if_eq (tgt := 26) d_Mo_storey_5 (by decide) (fun hc5 => ?_) (fun hc5 => ?_)
  · replace h := ite_t hc5 h
    refine V.ldcw (v := (-100000)) kc_Mo_499 d_Mo_storey_26 ?_
    cases h
    exact V.iret rfl d_Mo_storey_29 ⟨rfl, rfl⟩
  · replace h := ite_f hc5 h
    refine V.aload_n d_Mo_storey_8 rfl 0 rfl ?_
    refine V.getR (r := 66) ok_Mo fl_Mo_7 (by decide) (by decide) ly_65 rfl d_Mo_storey_9 ?_
    refine V.iload_n d_Mo_storey_12 rfl 1 rfl ?_
    obtain ⟨gq, h⟩ := grd_e h
    refine V.ra (by decide) ly_66 (inb_e gq) rfl d_Mo_storey_13 ?_
    refine V.if_ne (tgt := 26) d_Mo_storey_14 (by decide) (fun hc14 => ?_) (fun hc14 => ?_)
    · replace h := ite_f hc14 h
      refine V.ldcw (v := (-100000)) kc_Mo_499 d_Mo_storey_26 ?_
      cases h
      exact V.iret rfl d_Mo_storey_29 ⟨rfl, rfl⟩
    · replace h := ite_t hc14 h
      refine V.iload_n d_Mo_storey_17 rfl 2 rfl ?_
      refine V.iconst (v := 0) d_Mo_storey_18 (by decide) ?_
      refine V.iconst (v := 1) d_Mo_storey_19 (by decide) ?_
      obtain ⟨r20, h1, h⟩ := bnd1_e h
      refine V.sI (as := [.int a2, .int 0, .int 1]) (st := []) (c_Mo_in Z h1) k_Mo_in lk_Mo_188 (by decide) rfl rfl (Nat.le_of_ble_eq_true rfl) d_Mo_storey_20 ?_
      refine V.if_ne (tgt := 30) d_Mo_storey_23 (by decide) (fun hc23 => ?_) (fun hc23 => ?_)
      · replace h := ite_f hc23 h
        refine V.aload_n d_Mo_storey_30 rfl 0 rfl ?_
        obtain ⟨σ31, h1, h⟩ := bnd1_e h
        refine V.vN (as := []) (st := []) (c_Mo_laysDay Z h1) k_Mo_laysDay lk_Mo_370 (by decide) rfl (by decide) ly_65 ok_Mo.1 rfl (Nat.le_of_ble_eq_true rfl) d_Mo_storey_31 ?_
        refine V.aload_n d_Mo_storey_34 rfl 0 rfl ?_
        refine V.iconst (v := 0) d_Mo_storey_35 (by decide) ?_
        obtain ⟨σ36, e_σ36, h⟩ := letv_e h
        refine V.putI ok_Mo fl_Mo_480 (by decide) (by decide) ly_65 rfl rfl rfl rfl d_Mo_storey_36 (V.mem e_σ36 ?_)
        refine V.aload_n d_Mo_storey_39 rfl 0 rfl ?_
        refine V.iload_n d_Mo_storey_40 rfl 2 rfl ?_
        refine V.iconst (v := 1) d_Mo_storey_41 (by decide) ?_
        obtain ⟨s42, h1, h⟩ := bnd1_e h
        have J42_50 : ∀ (y42_s1 : Int32), s42 = y42_s1 → V (mkB Z) Y m_Mo_storey 6 (QP (mkB Z) Y nC 0 0 (fun v t => v = some (.int r) ∧ t = σ')) 0 0 nC σ36 50 [(0, rf Z 65), (1, .int a1), (2, .int a2)] [.int y42_s1, rf Z 65] := by
          intro y42_s1 he
          rw [he] at h
          obtain ⟨r50, h1, h⟩ := bnd1_e h
          refine V.vI (as := [.int y42_s1]) (st := []) (c_Mo_happyBy Z h1) k_Mo_happyBy lk_Mo_492 (by decide) rfl (by decide) ly_65 ok_Mo.1 rfl (Nat.le_of_ble_eq_true rfl) d_Mo_storey_50 ?_
          refine V.istore_n (lv' := [(3, .int r50), (0, rf Z 65), (1, .int a1), (2, .int a2)]) d_Mo_storey_53 rfl (by decide) rfl ?_
          refine V.aload_n d_Mo_storey_54 rfl 1 rfl ?_
          refine V.getR (r := 68) ok_Mo fl_Mo_16 (by decide) (by decide) ly_65 rfl d_Mo_storey_55 ?_
          refine V.iload_n d_Mo_storey_58 rfl 2 rfl ?_
          obtain ⟨gq, h⟩ := grd_e h
          refine V.ra (by decide) ly_68 (inb_e gq) rfl d_Mo_storey_59 ?_
          obtain ⟨v60, e_v60, h⟩ := letv_e h
          refine V.topI e_v60 ?_
          refine V.istore (lv' := [(4, .int v60), (3, .int r50), (0, rf Z 65), (1, .int a1), (2, .int a2)]) d_Mo_storey_60 (by decide) rfl ?_
          refine V.aload_n d_Mo_storey_62 rfl 2 rfl ?_
          refine V.getR (r := 68) ok_Mo fl_Mo_16 (by decide) (by decide) ly_65 rfl d_Mo_storey_63 ?_
          refine V.iload_n d_Mo_storey_66 rfl 3 rfl ?_
          refine V.bipush (v := 99) d_Mo_storey_67 (by decide) ?_
          refine V.iload d_Mo_storey_69 0 rfl ?_
          refine V.bipush (v := 12) d_Mo_storey_71 (by decide) ?_
          refine V.iadd d_Mo_storey_73 ?_
          obtain ⟨r74, h1, h⟩ := bnd1_e h
          refine V.sI (as := [.int 99, .int (v60 + 12)]) (st := [.int a1, rf Z 68]) (c_Mo_min Z h1) k_Mo_min lk_Mo_342 (by decide) rfl rfl (Nat.le_of_ble_eq_true rfl) d_Mo_storey_74 ?_
          obtain ⟨gq, h⟩ := grd_e h
          obtain ⟨σ77, e_σ77, h⟩ := letv_e h
          refine V.wa (by decide) ly_68 (inb_e gq) rfl d_Mo_storey_77 e_σ77 ?_
          refine V.aload_n d_Mo_storey_78 rfl 2 rfl ?_
          obtain ⟨σ79, h1, h⟩ := bnd1_e h
          refine V.vN (as := []) (st := []) (c_Mo_laysDay Z h1) k_Mo_laysDay lk_Mo_370 (by decide) rfl (by decide) ly_65 ok_Mo.1 rfl (Nat.le_of_ble_eq_true rfl) d_Mo_storey_79 ?_
          refine V.aload_n d_Mo_storey_82 rfl 2 rfl ?_
          refine V.iload_n d_Mo_storey_83 rfl 4 rfl ?_
          refine V.iconst (v := 1) d_Mo_storey_84 (by decide) ?_
          obtain ⟨s85, h1, h⟩ := bnd1_e h
          have J85_93 : ∀ (y85_s1 : Int32), s85 = y85_s1 → V (mkB Z) Y m_Mo_storey 6 (QP (mkB Z) Y nC 0 0 (fun v t => v = some (.int r) ∧ t = σ')) 0 0 nC σ79 93 [(0, rf Z 65), (1, .int a1), (2, .int a2), (3, .int r50), (4, .int v60)] [.int y85_s1, rf Z 65] := by
            intro y85_s1 he
            rw [he] at h
            obtain ⟨r93, h1, h⟩ := bnd1_e h
            refine V.vI (as := [.int y85_s1]) (st := []) (c_Mo_happyBy Z h1) k_Mo_happyBy lk_Mo_492 (by decide) rfl (by decide) ly_65 ok_Mo.1 rfl (Nat.le_of_ble_eq_true rfl) d_Mo_storey_93 ?_
            refine V.istore (lv' := [(5, .int r93), (0, rf Z 65), (1, .int a1), (2, .int a2), (3, .int r50), (4, .int v60)]) d_Mo_storey_96 (by decide) rfl ?_
            refine V.aload_n d_Mo_storey_98 rfl 1 rfl ?_
            refine V.getR (r := 68) ok_Mo fl_Mo_16 (by decide) (by decide) ly_65 rfl d_Mo_storey_99 ?_
            refine V.iload_n d_Mo_storey_102 rfl 2 rfl ?_
            refine V.iload d_Mo_storey_103 5 rfl ?_
            obtain ⟨gq, h⟩ := grd_e h
            obtain ⟨σ105, e_σ105, h⟩ := letv_e h
            refine V.wa (by decide) ly_68 (inb_e gq) rfl d_Mo_storey_105 e_σ105 ?_
            refine V.iload_n d_Mo_storey_106 rfl 3 rfl ?_
            refine V.if_ne (tgt := 117) d_Mo_storey_107 (by decide) (fun hc107 => ?_) (fun hc107 => ?_)
            · replace h := ite_f hc107 h
              refine V.iload_n d_Mo_storey_117 rfl 4 rfl ?_
              refine V.iload d_Mo_storey_118 0 rfl ?_
              refine V.isub d_Mo_storey_120 ?_
              cases h
              exact V.iret rfl d_Mo_storey_121 ⟨rfl, rfl⟩
            · replace h := ite_t hc107 h
              refine V.iload d_Mo_storey_110 0 rfl ?_
              refine V.iload_n d_Mo_storey_112 rfl 4 rfl ?_
              refine V.isub d_Mo_storey_113 ?_
              refine V.goto (tgt := 121) d_Mo_storey_114 (by decide) ?_
              cases h
              exact V.iret rfl d_Mo_storey_121 ⟨rfl, rfl⟩
          replace h := h1
          refine V.icmp_ne (tgt := 92) d_Mo_storey_85 (by decide) (fun hc85 => ?_) (fun hc85 => ?_)
          · replace h := ite_f hc85 h
            refine V.iconst (v := 0) d_Mo_storey_92 (by decide) ?_
            exact V.pick [2, 3, 4, 1, 0] rfl (J85_93 _ (Option.some.inj h).symm)
          · replace h := ite_t hc85 h
            refine V.iconst (v := 1) d_Mo_storey_88 (by decide) ?_
            refine V.goto (tgt := 93) d_Mo_storey_89 (by decide) ?_
            exact V.pick [2, 3, 4, 1, 0] rfl (J85_93 _ (Option.some.inj h).symm)
        replace h := h1
        refine V.icmp_ne (tgt := 49) d_Mo_storey_42 (by decide) (fun hc42 => ?_) (fun hc42 => ?_)
        · replace h := ite_f hc42 h
          refine V.iconst (v := 0) d_Mo_storey_49 (by decide) ?_
          exact V.pick [0, 1, 2] rfl (J42_50 _ (Option.some.inj h).symm)
        · replace h := ite_t hc42 h
          refine V.iconst (v := 1) d_Mo_storey_45 (by decide) ?_
          refine V.goto (tgt := 50) d_Mo_storey_46 (by decide) ?_
          exact V.pick [0, 1, 2] rfl (J42_50 _ (Option.some.inj h).symm)
      · replace h := ite_t hc23 h
        refine V.ldcw (v := (-100000)) kc_Mo_499 d_Mo_storey_26 ?_
        cases h
        exact V.iret rfl d_Mo_storey_29 ⟨rfl, rfl⟩
abbrev m_Mo_laysBesides : MI := (⟨"ShadeTownModel", "laysBesides", "(III)V"⟩, prog_13_method_104_code, 7, (Option.none : Option Jvm.ClassFile.FieldType))
theorem d_Mo_laysBesides_0 : decode prog_13_method_104_code 0 = .ok (.aload_n 0, 1) := by decide +kernel
theorem d_Mo_laysBesides_1 : decode prog_13_method_104_code 1 = .ok (.iconst 0, 1) := by decide +kernel
theorem d_Mo_laysBesides_2 : decode prog_13_method_104_code 2 = .ok (.putfield 480, 3) := by decide +kernel
theorem d_Mo_laysBesides_5 : decode prog_13_method_104_code 5 = .ok (.iconst 0, 1) := by decide +kernel
theorem d_Mo_laysBesides_6 : decode prog_13_method_104_code 6 = .ok (.istore 4, 2) := by decide +kernel
theorem d_Mo_laysBesides_8 : decode prog_13_method_104_code 8 = .ok (.iload 4, 2) := by decide +kernel
theorem d_Mo_laysBesides_10 : decode prog_13_method_104_code 10 = .ok (.iload_n 2, 1) := by decide +kernel
theorem d_Mo_laysBesides_88 : decode prog_13_method_104_code 88 = .ok (.return_, 1) := by decide +kernel
theorem d_Mo_laysBesides_14 : decode prog_13_method_104_code 14 = .ok (.iload_n 1, 1) := by decide +kernel
theorem d_Mo_laysBesides_15 : decode prog_13_method_104_code 15 = .ok (.bipush 12, 2) := by decide +kernel
theorem d_Mo_laysBesides_17 : decode prog_13_method_104_code 17 = .ok (.irem, 1) := by decide +kernel
theorem d_Mo_laysBesides_18 : decode prog_13_method_104_code 18 = .ok (.iload 4, 2) := by decide +kernel
theorem d_Mo_laysBesides_20 : decode prog_13_method_104_code 20 = .ok (.iload_n 3, 1) := by decide +kernel
theorem d_Mo_laysBesides_21 : decode prog_13_method_104_code 21 = .ok (.invokestatic 349, 3) := by decide +kernel
theorem d_Mo_laysBesides_24 : decode prog_13_method_104_code 24 = .ok (.imul, 1) := by decide +kernel
theorem d_Mo_laysBesides_25 : decode prog_13_method_104_code 25 = .ok (.iadd, 1) := by decide +kernel
theorem d_Mo_laysBesides_26 : decode prog_13_method_104_code 26 = .ok (.istore 5, 2) := by decide +kernel
theorem d_Mo_laysBesides_28 : decode prog_13_method_104_code 28 = .ok (.iload_n 1, 1) := by decide +kernel
theorem d_Mo_laysBesides_29 : decode prog_13_method_104_code 29 = .ok (.bipush 12, 2) := by decide +kernel
theorem d_Mo_laysBesides_31 : decode prog_13_method_104_code 31 = .ok (.idiv, 1) := by decide +kernel
theorem d_Mo_laysBesides_32 : decode prog_13_method_104_code 32 = .ok (.iload 4, 2) := by decide +kernel
theorem d_Mo_laysBesides_34 : decode prog_13_method_104_code 34 = .ok (.iload_n 3, 1) := by decide +kernel
theorem d_Mo_laysBesides_35 : decode prog_13_method_104_code 35 = .ok (.invokestatic 352, 3) := by decide +kernel
theorem d_Mo_laysBesides_38 : decode prog_13_method_104_code 38 = .ok (.imul, 1) := by decide +kernel
theorem d_Mo_laysBesides_39 : decode prog_13_method_104_code 39 = .ok (.iadd, 1) := by decide +kernel
theorem d_Mo_laysBesides_40 : decode prog_13_method_104_code 40 = .ok (.istore 6, 2) := by decide +kernel
theorem d_Mo_laysBesides_42 : decode prog_13_method_104_code 42 = .ok (.iload 5, 2) := by decide +kernel
theorem d_Mo_laysBesides_44 : decode prog_13_method_104_code 44 = .ok (.iload 6, 2) := by decide +kernel
theorem d_Mo_laysBesides_46 : decode prog_13_method_104_code 46 = .ok (.invokestatic 185, 3) := by decide +kernel
theorem d_Mo_laysBesides_55 : decode prog_13_method_104_code 55 = .ok (.aload_n 0, 1) := by decide +kernel
theorem d_Mo_laysBesides_56 : decode prog_13_method_104_code 56 = .ok (.getfield 127, 3) := by decide +kernel
theorem d_Mo_laysBesides_59 : decode prog_13_method_104_code 59 = .ok (.aload_n 0, 1) := by decide +kernel
theorem d_Mo_laysBesides_60 : decode prog_13_method_104_code 60 = .ok (.getfield 480, 3) := by decide +kernel
theorem d_Mo_laysBesides_63 : decode prog_13_method_104_code 63 = .ok (.bipush 12, 2) := by decide +kernel
theorem d_Mo_laysBesides_65 : decode prog_13_method_104_code 65 = .ok (.iload 6, 2) := by decide +kernel
theorem d_Mo_laysBesides_67 : decode prog_13_method_104_code 67 = .ok (.imul, 1) := by decide +kernel
theorem d_Mo_laysBesides_68 : decode prog_13_method_104_code 68 = .ok (.iload 5, 2) := by decide +kernel
theorem d_Mo_laysBesides_70 : decode prog_13_method_104_code 70 = .ok (.iadd, 1) := by decide +kernel
theorem d_Mo_laysBesides_71 : decode prog_13_method_104_code 71 = .ok (.iastore, 1) := by decide +kernel
theorem d_Mo_laysBesides_72 : decode prog_13_method_104_code 72 = .ok (.aload_n 0, 1) := by decide +kernel
theorem d_Mo_laysBesides_73 : decode prog_13_method_104_code 73 = .ok (.aload_n 0, 1) := by decide +kernel
theorem d_Mo_laysBesides_74 : decode prog_13_method_104_code 74 = .ok (.getfield 480, 3) := by decide +kernel
theorem d_Mo_laysBesides_77 : decode prog_13_method_104_code 77 = .ok (.iconst 1, 1) := by decide +kernel
theorem d_Mo_laysBesides_78 : decode prog_13_method_104_code 78 = .ok (.iadd, 1) := by decide +kernel
theorem d_Mo_laysBesides_79 : decode prog_13_method_104_code 79 = .ok (.putfield 480, 3) := by decide +kernel
theorem d_Mo_laysBesides_52 : decode prog_13_method_104_code 52 = .ok (.goto 30, 3) := by decide +kernel
theorem d_Mo_laysBesides_49 : decode prog_13_method_104_code 49 = .ok (.ifCond .ne 6, 3) := by decide +kernel
theorem d_Mo_laysBesides_82 : decode prog_13_method_104_code 82 = .ok (.iinc 4 1, 3) := by decide +kernel
theorem d_Mo_laysBesides_85 : decode prog_13_method_104_code 85 = .ok (.goto (-77), 3) := by decide +kernel
theorem d_Mo_laysBesides_11 : decode prog_13_method_104_code 11 = .ok (.if_icmp .ge 77, 3) := by decide +kernel
def B_Mo_laysBesides_l8 (N : Nat) (a1 : Int32) (a2 : Int32) (a3 : Int32) (rec : Int32 → Mem → Option (Mem)) (x4 : Int32) (σ : Mem) : Option (Mem) :=
  if a2 ≤ x4 then
    (some σ)
  else
    (bnd1 (f_Mo_acrossOf a3) fun r21 =>
    letv ((a1 - a1 / 12 * 12) + (x4 * r21)) fun v26 =>
    bnd1 (f_Mo_upOf a3) fun r35 =>
    letv ((a1 / 12) + (x4 * r35)) fun v40 =>
    bnd1 (f_Mo_isIn v26 v40) fun r46 =>
    bnd1 ((
      if r46 = 0 then
        (some σ)
      else
        (grd (inb (mI σ 65 62) 3) <|
        letv (sI σ 104 ((mI σ 65 62).toNatClampNeg) ((12 * v40) + v26)) fun σ71 =>
        letv (sI σ71 65 62 ((mI σ71 65 62) + 1)) fun σ79 =>
        some σ79)) : Option (Mem)) fun σ49_ =>
    letv (x4 + 1) fun v82 =>
    rec v82 σ49_)
def L_Mo_laysBesides_l8 (N : Nat) (a1 : Int32) (a2 : Int32) (a3 : Int32) : Nat → Int32 → Mem → Option (Mem)
  | 0, _, _ => none
  | k + 1, x4, σ => B_Mo_laysBesides_l8 N a1 a2 a3 (L_Mo_laysBesides_l8 N a1 a2 a3 k) x4 σ
set_option maxHeartbeats 4000000 in
set_option maxRecDepth 20000 in
theorem cL_Mo_laysBesides_l8 (Z : ZX) {Y : YX} {post : Option Value → Mem → Prop} {N : Nat} {a1 : Int32} {a2 : Int32} {a3 : Int32} {Good : Mem → Prop} (hR : ∀ (σr : Mem), Good σr → post none σr) : ∀ (k : Nat) (x4 : Int32) (σ : Mem) (res : Mem), L_Mo_laysBesides_l8 N a1 a2 a3 k x4 σ = some res → Good res → V (mkB Z) Y m_Mo_laysBesides 1 (QP (mkB Z) Y nC 0 0 post) 0 0 nC σ 8 [(0, rf Z 65), (1, .int a1), (2, .int a2), (3, .int a3), (4, .int x4)] [] := by
  intro k
  induction k with
  | zero => intro x4 σ res h; cases h
  | succ k ih =>
    intro x4 σ res h hg
    replace h : B_Mo_laysBesides_l8 N a1 a2 a3 (L_Mo_laysBesides_l8 N a1 a2 a3 k) x4 σ = some res := h
    unfold B_Mo_laysBesides_l8 at h
    refine V.iload d_Mo_laysBesides_8 4 rfl ?_
    refine V.iload_n d_Mo_laysBesides_10 rfl 2 rfl ?_
    refine V.icmp_ge (tgt := 88) d_Mo_laysBesides_11 (by decide) (fun hc11 => ?_) (fun hc11 => ?_)
    · replace h := ite_t hc11 h
      cases h
      exact V.vret rfl d_Mo_laysBesides_88 (hR _ hg)
    · replace h := ite_f hc11 h
      refine V.iload_n d_Mo_laysBesides_14 rfl 1 rfl ?_
      refine V.bipush (v := 12) d_Mo_laysBesides_15 (by decide) ?_
      refine V.irem d_Mo_laysBesides_17 (by decide) ?_
      refine V.iload d_Mo_laysBesides_18 4 rfl ?_
      refine V.iload_n d_Mo_laysBesides_20 rfl 3 rfl ?_
      obtain ⟨r21, h1, h⟩ := bnd1_e h
      refine V.sI (as := [.int a3]) (st := [.int x4, .int (a1 - a1 / 12 * 12)]) (c_Mo_acrossOf Z h1) k_Mo_acrossOf lk_Mo_349 (by decide) rfl rfl (Nat.le_of_ble_eq_true rfl) d_Mo_laysBesides_21 ?_
      refine V.imul d_Mo_laysBesides_24 ?_
      refine V.iadd d_Mo_laysBesides_25 ?_
      obtain ⟨v26, e_v26, h⟩ := letv_e h
      refine V.topI e_v26 ?_
      refine V.istore (lv' := [(5, .int v26), (0, rf Z 65), (1, .int a1), (2, .int a2), (3, .int a3), (4, .int x4)]) d_Mo_laysBesides_26 (by decide) rfl ?_
      refine V.iload_n d_Mo_laysBesides_28 rfl 2 rfl ?_
      refine V.bipush (v := 12) d_Mo_laysBesides_29 (by decide) ?_
      refine V.idiv d_Mo_laysBesides_31 (by decide) ?_
      refine V.iload d_Mo_laysBesides_32 5 rfl ?_
      refine V.iload_n d_Mo_laysBesides_34 rfl 4 rfl ?_
      obtain ⟨r35, h1, h⟩ := bnd1_e h
      refine V.sI (as := [.int a3]) (st := [.int x4, .int (a1 / 12)]) (c_Mo_upOf Z h1) k_Mo_upOf lk_Mo_352 (by decide) rfl rfl (Nat.le_of_ble_eq_true rfl) d_Mo_laysBesides_35 ?_
      refine V.imul d_Mo_laysBesides_38 ?_
      refine V.iadd d_Mo_laysBesides_39 ?_
      obtain ⟨v40, e_v40, h⟩ := letv_e h
      refine V.topI e_v40 ?_
      refine V.istore (lv' := [(6, .int v40), (5, .int v26), (0, rf Z 65), (1, .int a1), (2, .int a2), (3, .int a3), (4, .int x4)]) d_Mo_laysBesides_40 (by decide) rfl ?_
      refine V.iload d_Mo_laysBesides_42 1 rfl ?_
      refine V.iload d_Mo_laysBesides_44 0 rfl ?_
      obtain ⟨r46, h1, h⟩ := bnd1_e h
      refine V.sI (as := [.int v26, .int v40]) (st := []) (c_Mo_isIn Z h1) k_Mo_isIn lk_Mo_185 (by decide) rfl rfl (Nat.le_of_ble_eq_true rfl) d_Mo_laysBesides_46 ?_
      obtain ⟨s49, h1, h⟩ := bnd1_e h
      have J49_82 : ∀ (σ49_ : Mem), s49 = σ49_ → V (mkB Z) Y m_Mo_laysBesides 1 (QP (mkB Z) Y nC 0 0 post) 0 0 nC σ49_ 82 [(0, rf Z 65), (1, .int a1), (2, .int a2), (3, .int a3), (4, .int x4)] [] := by
        intro σ49_ he
        rw [he] at h
        obtain ⟨v82, e_v82, h⟩ := letv_e h
        refine V.iinc (v := v82) (lv' := [(4, .int v82), (0, rf Z 65), (1, .int a1), (2, .int a2), (3, .int a3)]) d_Mo_laysBesides_82 4 rfl (by rw [e_v82]; rfl) (by decide) rfl ?_
        refine V.goto (tgt := 8) d_Mo_laysBesides_85 (by decide) ?_
        exact V.pick [1, 2, 3, 4, 0] rfl (ih _ _ _ h hg)
      replace h := h1
      refine V.if_ne (tgt := 55) d_Mo_laysBesides_49 (by decide) (fun hc49 => ?_) (fun hc49 => ?_)
      · replace h := ite_f hc49 h
        refine V.aload_n d_Mo_laysBesides_55 rfl 2 rfl ?_
        refine V.getR (r := 104) ok_Mo fl_Mo_127 (by decide) (by decide) ly_65 rfl d_Mo_laysBesides_56 ?_
        refine V.aload_n d_Mo_laysBesides_59 rfl 2 rfl ?_
        refine V.getI ok_Mo fl_Mo_480 (by decide) (by decide) ly_65 rfl d_Mo_laysBesides_60 ?_
        refine V.bipush (v := 12) d_Mo_laysBesides_63 (by decide) ?_
        refine V.iload d_Mo_laysBesides_65 0 rfl ?_
        refine V.imul d_Mo_laysBesides_67 ?_
        refine V.iload d_Mo_laysBesides_68 1 rfl ?_
        refine V.iadd d_Mo_laysBesides_70 ?_
        obtain ⟨gq, h⟩ := grd_e h
        obtain ⟨σ71, e_σ71, h⟩ := letv_e h
        refine V.wa (by decide) ly_104 (inb_e gq) rfl d_Mo_laysBesides_71 e_σ71 ?_
        refine V.aload_n d_Mo_laysBesides_72 rfl 2 rfl ?_
        refine V.aload_n d_Mo_laysBesides_73 rfl 2 rfl ?_
        refine V.getI ok_Mo fl_Mo_480 (by decide) (by decide) ly_65 rfl d_Mo_laysBesides_74 ?_
        refine V.iconst (v := 1) d_Mo_laysBesides_77 (by decide) ?_
        refine V.iadd d_Mo_laysBesides_78 ?_
        obtain ⟨σ79, e_σ79, h⟩ := letv_e h
        refine V.putI ok_Mo fl_Mo_480 (by decide) (by decide) ly_65 rfl rfl rfl rfl d_Mo_laysBesides_79 (V.mem e_σ79 ?_)
        exact V.pick [2, 3, 4, 5, 6] rfl (J49_82 _ (Option.some.inj h).symm)
      · replace h := ite_t hc49 h
        refine V.goto (tgt := 82) d_Mo_laysBesides_52 (by decide) ?_
        exact V.pick [2, 3, 4, 5, 6] rfl (J49_82 _ (Option.some.inj h).symm)
def f_Mo_laysBesides (N : Nat) (σ : Mem) (a1 : Int32) (a2 : Int32) (a3 : Int32) : Option (Mem) :=
  letv (sI σ 65 62 0) fun σ2 =>
  L_Mo_laysBesides_l8 N a1 a2 a3 N 0 σ2
set_option maxHeartbeats 4000000 in
set_option maxRecDepth 20000 in
theorem c_Mo_laysBesides (Z : ZX) {N : Nat} {σ : Mem} {a1 : Int32} {a2 : Int32} {a3 : Int32} {σ' : Mem} (h : f_Mo_laysBesides N σ a1 a2 a3 = some σ') : CN Z 1 m_Mo_laysBesides [rf Z 65, .int a1, .int a2, .int a3] σ σ' := by
  refine Ct.of (by decide +kernel) (Nat.le_of_ble_eq_true rfl) (fun Y => ?_)
  show V (mkB Z) Y m_Mo_laysBesides 1 (QP (mkB Z) Y nC 0 0 (fun v t => v = none ∧ t = σ')) 0 0 nC σ 0 [(0, rf Z 65), (1, .int a1), (2, .int a2), (3, .int a3)] []
  unfold f_Mo_laysBesides at h
  refine V.aload_n d_Mo_laysBesides_0 rfl 0 rfl ?_
  refine V.iconst (v := 0) d_Mo_laysBesides_1 (by decide) ?_
  obtain ⟨σ2, e_σ2, h⟩ := letv_e h
  refine V.putI ok_Mo fl_Mo_480 (by decide) (by decide) ly_65 rfl rfl rfl rfl d_Mo_laysBesides_2 (V.mem e_σ2 ?_)
  refine V.iconst (v := 0) d_Mo_laysBesides_5 (by decide) ?_
  refine V.istore (lv' := [(4, .int 0), (0, rf Z 65), (1, .int a1), (2, .int a2), (3, .int a3)]) d_Mo_laysBesides_6 (by decide) rfl ?_
  refine V.pick [1, 2, 3, 4, 0] rfl (cL_Mo_laysBesides_l8 Z (Good := fun z => z = _) (fun r8m he => ?_) N _ _ _ h rfl)
  · cases he
    exact ⟨rfl, rfl⟩
abbrev m_Mo_bestAwning : MI := (⟨"ShadeTownModel", "bestAwning", "(II)I"⟩, prog_13_method_105_code, 7, (Option.some Jvm.ClassFile.FieldType.int))
theorem d_Mo_bestAwning_0 : decode prog_13_method_105_code 0 = .ok (.iload_n 1, 1) := by decide +kernel
theorem d_Mo_bestAwning_1 : decode prog_13_method_105_code 1 = .ok (.iconst 1, 1) := by decide +kernel
theorem d_Mo_bestAwning_2 : decode prog_13_method_105_code 2 = .ok (.iconst 3, 1) := by decide +kernel
theorem d_Mo_bestAwning_3 : decode prog_13_method_105_code 3 = .ok (.invokestatic 188, 3) := by decide +kernel
theorem d_Mo_bestAwning_18 : decode prog_13_method_105_code 18 = .ok (.iconst (-1), 1) := by decide +kernel
theorem d_Mo_bestAwning_19 : decode prog_13_method_105_code 19 = .ok (.ireturn, 1) := by decide +kernel
theorem d_Mo_bestAwning_9 : decode prog_13_method_105_code 9 = .ok (.iload_n 2, 1) := by decide +kernel
theorem d_Mo_bestAwning_10 : decode prog_13_method_105_code 10 = .ok (.iconst 0, 1) := by decide +kernel
theorem d_Mo_bestAwning_11 : decode prog_13_method_105_code 11 = .ok (.iconst 2, 1) := by decide +kernel
theorem d_Mo_bestAwning_12 : decode prog_13_method_105_code 12 = .ok (.invokestatic 188, 3) := by decide +kernel
theorem d_Mo_bestAwning_20 : decode prog_13_method_105_code 20 = .ok (.aload_n 0, 1) := by decide +kernel
theorem d_Mo_bestAwning_21 : decode prog_13_method_105_code 21 = .ok (.invokevirtual 370, 3) := by decide +kernel
theorem d_Mo_bestAwning_24 : decode prog_13_method_105_code 24 = .ok (.iconst (-1), 1) := by decide +kernel
theorem d_Mo_bestAwning_25 : decode prog_13_method_105_code 25 = .ok (.istore_n 3, 1) := by decide +kernel
theorem d_Mo_bestAwning_26 : decode prog_13_method_105_code 26 = .ok (.iconst (-1), 1) := by decide +kernel
theorem d_Mo_bestAwning_27 : decode prog_13_method_105_code 27 = .ok (.istore 4, 2) := by decide +kernel
theorem d_Mo_bestAwning_29 : decode prog_13_method_105_code 29 = .ok (.iconst 0, 1) := by decide +kernel
theorem d_Mo_bestAwning_30 : decode prog_13_method_105_code 30 = .ok (.istore 5, 2) := by decide +kernel
theorem d_Mo_bestAwning_32 : decode prog_13_method_105_code 32 = .ok (.iload 5, 2) := by decide +kernel
theorem d_Mo_bestAwning_34 : decode prog_13_method_105_code 34 = .ok (.sipush 576, 3) := by decide +kernel
theorem d_Mo_bestAwning_40 : decode prog_13_method_105_code 40 = .ok (.aload_n 0, 1) := by decide +kernel
theorem d_Mo_bestAwning_41 : decode prog_13_method_105_code 41 = .ok (.getfield 78, 3) := by decide +kernel
theorem d_Mo_bestAwning_44 : decode prog_13_method_105_code 44 = .ok (.iload 5, 2) := by decide +kernel
theorem d_Mo_bestAwning_46 : decode prog_13_method_105_code 46 = .ok (.iconst 4, 1) := by decide +kernel
theorem d_Mo_bestAwning_47 : decode prog_13_method_105_code 47 = .ok (.idiv, 1) := by decide +kernel
theorem d_Mo_bestAwning_48 : decode prog_13_method_105_code 48 = .ok (.baload, 1) := by decide +kernel
theorem d_Mo_bestAwning_55 : decode prog_13_method_105_code 55 = .ok (.aload_n 0, 1) := by decide +kernel
theorem d_Mo_bestAwning_56 : decode prog_13_method_105_code 56 = .ok (.iload 5, 2) := by decide +kernel
theorem d_Mo_bestAwning_58 : decode prog_13_method_105_code 58 = .ok (.iconst 4, 1) := by decide +kernel
theorem d_Mo_bestAwning_59 : decode prog_13_method_105_code 59 = .ok (.idiv, 1) := by decide +kernel
theorem d_Mo_bestAwning_60 : decode prog_13_method_105_code 60 = .ok (.iload_n 1, 1) := by decide +kernel
theorem d_Mo_bestAwning_61 : decode prog_13_method_105_code 61 = .ok (.iload 5, 2) := by decide +kernel
theorem d_Mo_bestAwning_63 : decode prog_13_method_105_code 63 = .ok (.iconst 4, 1) := by decide +kernel
theorem d_Mo_bestAwning_64 : decode prog_13_method_105_code 64 = .ok (.irem, 1) := by decide +kernel
theorem d_Mo_bestAwning_65 : decode prog_13_method_105_code 65 = .ok (.invokevirtual 500, 3) := by decide +kernel
theorem k_Mo_laysBesides : MOk m_Mo_laysBesides 3 ∧ IOk m_Mo_laysBesides := ⟨⟨atG 1975 (by decide +kernel) rfl, atG 122 (by decide +kernel) rfl, ⟨by decide, by decide⟩, by decide +kernel, by decide⟩, atG 1974 (by decide +kernel) rfl, atG 102 (by decide +kernel) rfl⟩
theorem lk_Mo_500 : Cond.methodLink "ShadeTownModel" 500 ⟨"ShadeTownModel", "laysBesides", "(III)V"⟩ ∈ tblG := atG 1972 (by decide +kernel) rfl
theorem d_Mo_bestAwning_68 : decode prog_13_method_105_code 68 = .ok (.aload_n 0, 1) := by decide +kernel
theorem d_Mo_bestAwning_69 : decode prog_13_method_105_code 69 = .ok (.invokevirtual 496, 3) := by decide +kernel
theorem d_Mo_bestAwning_72 : decode prog_13_method_105_code 72 = .ok (.istore 6, 2) := by decide +kernel
theorem d_Mo_bestAwning_74 : decode prog_13_method_105_code 74 = .ok (.iload 6, 2) := by decide +kernel
theorem d_Mo_bestAwning_76 : decode prog_13_method_105_code 76 = .ok (.iload 4, 2) := by decide +kernel
theorem d_Mo_bestAwning_84 : decode prog_13_method_105_code 84 = .ok (.iload 6, 2) := by decide +kernel
theorem d_Mo_bestAwning_86 : decode prog_13_method_105_code 86 = .ok (.istore 4, 2) := by decide +kernel
theorem d_Mo_bestAwning_88 : decode prog_13_method_105_code 88 = .ok (.iload 5, 2) := by decide +kernel
theorem d_Mo_bestAwning_90 : decode prog_13_method_105_code 90 = .ok (.istore_n 3, 1) := by decide +kernel
theorem d_Mo_bestAwning_81 : decode prog_13_method_105_code 81 = .ok (.goto 10, 3) := by decide +kernel
theorem d_Mo_bestAwning_78 : decode prog_13_method_105_code 78 = .ok (.if_icmp .gt 6, 3) := by decide +kernel
theorem d_Mo_bestAwning_52 : decode prog_13_method_105_code 52 = .ok (.goto 39, 3) := by decide +kernel
theorem d_Mo_bestAwning_49 : decode prog_13_method_105_code 49 = .ok (.ifCond .ne 6, 3) := by decide +kernel
theorem d_Mo_bestAwning_91 : decode prog_13_method_105_code 91 = .ok (.iinc 5 1, 3) := by decide +kernel
theorem d_Mo_bestAwning_94 : decode prog_13_method_105_code 94 = .ok (.goto (-62), 3) := by decide +kernel
theorem d_Mo_bestAwning_37 : decode prog_13_method_105_code 37 = .ok (.if_icmp .ge 60, 3) := by decide +kernel
theorem d_Mo_bestAwning_97 : decode prog_13_method_105_code 97 = .ok (.iload_n 3, 1) := by decide +kernel
theorem d_Mo_bestAwning_98 : decode prog_13_method_105_code 98 = .ok (.iconst (-1), 1) := by decide +kernel
theorem d_Mo_bestAwning_105 : decode prog_13_method_105_code 105 = .ok (.iload_n 2, 1) := by decide +kernel
theorem d_Mo_bestAwning_115 : decode prog_13_method_105_code 115 = .ok (.iload_n 2, 1) := by decide +kernel
theorem d_Mo_bestAwning_116 : decode prog_13_method_105_code 116 = .ok (.iconst 1, 1) := by decide +kernel
theorem d_Mo_bestAwning_126 : decode prog_13_method_105_code 126 = .ok (.iload 4, 2) := by decide +kernel
theorem d_Mo_bestAwning_128 : decode prog_13_method_105_code 128 = .ok (.ireturn, 1) := by decide +kernel
theorem d_Mo_bestAwning_120 : decode prog_13_method_105_code 120 = .ok (.iload_n 3, 1) := by decide +kernel
theorem d_Mo_bestAwning_121 : decode prog_13_method_105_code 121 = .ok (.iconst 4, 1) := by decide +kernel
theorem d_Mo_bestAwning_122 : decode prog_13_method_105_code 122 = .ok (.irem, 1) := by decide +kernel
theorem d_Mo_bestAwning_123 : decode prog_13_method_105_code 123 = .ok (.goto 5, 3) := by decide +kernel
theorem d_Mo_bestAwning_117 : decode prog_13_method_105_code 117 = .ok (.if_icmp .ne 9, 3) := by decide +kernel
theorem d_Mo_bestAwning_109 : decode prog_13_method_105_code 109 = .ok (.iload_n 3, 1) := by decide +kernel
theorem d_Mo_bestAwning_110 : decode prog_13_method_105_code 110 = .ok (.iconst 4, 1) := by decide +kernel
theorem d_Mo_bestAwning_111 : decode prog_13_method_105_code 111 = .ok (.idiv, 1) := by decide +kernel
theorem d_Mo_bestAwning_112 : decode prog_13_method_105_code 112 = .ok (.goto 16, 3) := by decide +kernel
theorem d_Mo_bestAwning_106 : decode prog_13_method_105_code 106 = .ok (.ifCond .ne 9, 3) := by decide +kernel
theorem d_Mo_bestAwning_102 : decode prog_13_method_105_code 102 = .ok (.bipush (-2), 2) := by decide +kernel
theorem d_Mo_bestAwning_104 : decode prog_13_method_105_code 104 = .ok (.ireturn, 1) := by decide +kernel
theorem d_Mo_bestAwning_99 : decode prog_13_method_105_code 99 = .ok (.if_icmp .ne 6, 3) := by decide +kernel
theorem d_Mo_bestAwning_15 : decode prog_13_method_105_code 15 = .ok (.ifCond .ne 5, 3) := by decide +kernel
theorem d_Mo_bestAwning_6 : decode prog_13_method_105_code 6 = .ok (.ifCond .eq 12, 3) := by decide +kernel
def B_Mo_bestAwning_l32 (N : Nat) (a1 : Int32) (a2 : Int32) (rec : Int32 → Int32 → Int32 → Mem → Option (Int32 × Int32 × Mem)) (x3 : Int32) (x4 : Int32) (x5 : Int32) (σ : Mem) : Option (Int32 × Int32 × Mem) :=
  if 576 ≤ x5 then
    (some (x3, x4, σ))
  else
    (grd (inb (x5 / 4) 144) <|
    bnd1 ((
      if (mI σ 88 ((x5 / 4).toNatClampNeg)) = 0 then
        (some (x3, x4, σ))
      else
        (bnd1 (f_Mo_laysBesides N σ (x5 / 4) a1 (x5 - x5 / 4 * 4)) fun σ65 =>
        bnd1 (f_Mo_happyAll N σ65) fun r69 =>
        if x4 < r69 then
          (some (x5, r69, σ65))
        else
          (some (x3, x4, σ65)))) : Option (Int32 × Int32 × Mem)) fun s49 =>
    q3 s49 fun y49_3 y49_4 σ49_ =>
    letv (x5 + 1) fun v91 =>
    rec y49_3 y49_4 v91 σ49_)
def L_Mo_bestAwning_l32 (N : Nat) (a1 : Int32) (a2 : Int32) : Nat → Int32 → Int32 → Int32 → Mem → Option (Int32 × Int32 × Mem)
  | 0, _, _, _, _ => none
  | k + 1, x3, x4, x5, σ => B_Mo_bestAwning_l32 N a1 a2 (L_Mo_bestAwning_l32 N a1 a2 k) x3 x4 x5 σ
set_option maxHeartbeats 4000000 in
set_option maxRecDepth 20000 in
theorem cL_Mo_bestAwning_l32 (Z : ZX) {Y : YX} {Q : State → Prop} {N : Nat} {a1 : Int32} {a2 : Int32} {Good : Int32 × Int32 × Mem → Prop} (hE : ∀ (o3 : Int32) (o4 : Int32) (σe : Mem), Good (o3, o4, σe) → V (mkB Z) Y m_Mo_bestAwning 6 Q 0 0 nC σe 97 [(2, .int a2), (3, .int o3), (4, .int o4)] []) : ∀ (k : Nat) (x3 : Int32) (x4 : Int32) (x5 : Int32) (σ : Mem) (res : Int32 × Int32 × Mem), L_Mo_bestAwning_l32 N a1 a2 k x3 x4 x5 σ = some res → Good res → V (mkB Z) Y m_Mo_bestAwning 6 Q 0 0 nC σ 32 [(0, rf Z 65), (1, .int a1), (2, .int a2), (3, .int x3), (4, .int x4), (5, .int x5)] [] := by
  intro k
  induction k with
  | zero => intro x3 x4 x5 σ res h; cases h
  | succ k ih =>
    intro x3 x4 x5 σ res h hg
    replace h : B_Mo_bestAwning_l32 N a1 a2 (L_Mo_bestAwning_l32 N a1 a2 k) x3 x4 x5 σ = some res := h
    unfold B_Mo_bestAwning_l32 at h
    refine V.iload d_Mo_bestAwning_32 5 rfl ?_
    refine V.sipush (v := 576) d_Mo_bestAwning_34 (by decide) ?_
    refine V.icmp_ge (tgt := 97) d_Mo_bestAwning_37 (by decide) (fun hc37 => ?_) (fun hc37 => ?_)
    · replace h := ite_t hc37 h
      cases h
      exact V.pick [2, 3, 4] rfl (hE _ _ _ hg)
    · replace h := ite_f hc37 h
      refine V.aload_n d_Mo_bestAwning_40 rfl 0 rfl ?_
      refine V.getR (r := 88) ok_Mo fl_Mo_78 (by decide) (by decide) ly_65 rfl d_Mo_bestAwning_41 ?_
      refine V.iload d_Mo_bestAwning_44 5 rfl ?_
      refine V.iconst (v := 4) d_Mo_bestAwning_46 (by decide) ?_
      refine V.idiv d_Mo_bestAwning_47 (by decide) ?_
      obtain ⟨gq, h⟩ := grd_e h
      refine V.rz (by decide) ly_88 (inb_e gq) rfl d_Mo_bestAwning_48 ?_
      obtain ⟨s49, h1, h⟩ := bnd1_e h
      have J49_91 : ∀ (y49_3 : Int32) (y49_4 : Int32) (σ49_ : Mem), s49 = (y49_3, y49_4, σ49_) → V (mkB Z) Y m_Mo_bestAwning 6 Q 0 0 nC σ49_ 91 [(0, rf Z 65), (1, .int a1), (2, .int a2), (3, .int y49_3), (4, .int y49_4), (5, .int x5)] [] := by
        intro y49_3 y49_4 σ49_ he
        rw [he] at h
        replace h := q3_e h
        obtain ⟨v91, e_v91, h⟩ := letv_e h
        refine V.iinc (v := v91) (lv' := [(5, .int v91), (0, rf Z 65), (1, .int a1), (2, .int a2), (3, .int y49_3), (4, .int y49_4)]) d_Mo_bestAwning_91 5 rfl (by rw [e_v91]; rfl) (by decide) rfl ?_
        refine V.goto (tgt := 32) d_Mo_bestAwning_94 (by decide) ?_
        exact V.pick [1, 2, 3, 4, 5, 0] rfl (ih _ _ _ _ _ h hg)
      replace h := h1
      refine V.if_ne (tgt := 55) d_Mo_bestAwning_49 (by decide) (fun hc49 => ?_) (fun hc49 => ?_)
      · replace h := ite_f hc49 h
        refine V.aload_n d_Mo_bestAwning_55 rfl 0 rfl ?_
        refine V.iload d_Mo_bestAwning_56 5 rfl ?_
        refine V.iconst (v := 4) d_Mo_bestAwning_58 (by decide) ?_
        refine V.idiv d_Mo_bestAwning_59 (by decide) ?_
        refine V.iload_n d_Mo_bestAwning_60 rfl 1 rfl ?_
        refine V.iload d_Mo_bestAwning_61 5 rfl ?_
        refine V.iconst (v := 4) d_Mo_bestAwning_63 (by decide) ?_
        refine V.irem d_Mo_bestAwning_64 (by decide) ?_
        obtain ⟨σ65, h1, h⟩ := bnd1_e h
        refine V.vN (as := [.int (x5 / 4), .int a1, .int (x5 - x5 / 4 * 4)]) (st := []) (c_Mo_laysBesides Z h1) k_Mo_laysBesides lk_Mo_500 (by decide) rfl (by decide) ly_65 ok_Mo.1 rfl (Nat.le_of_ble_eq_true rfl) d_Mo_bestAwning_65 ?_
        refine V.aload_n d_Mo_bestAwning_68 rfl 0 rfl ?_
        obtain ⟨r69, h1, h⟩ := bnd1_e h
        refine V.vI (as := []) (st := []) (c_Mo_happyAll Z h1) k_Mo_happyAll lk_Mo_496 (by decide) rfl (by decide) ly_65 ok_Mo.1 rfl (Nat.le_of_ble_eq_true rfl) d_Mo_bestAwning_69 ?_
        refine V.istore (lv' := [(6, .int r69), (0, rf Z 65), (1, .int a1), (2, .int a2), (3, .int x3), (4, .int x4), (5, .int x5)]) d_Mo_bestAwning_72 (by decide) rfl ?_
        refine V.iload d_Mo_bestAwning_74 0 rfl ?_
        refine V.iload d_Mo_bestAwning_76 5 rfl ?_
        refine V.icmp_gt (tgt := 84) d_Mo_bestAwning_78 (by decide) (fun hc78 => ?_) (fun hc78 => ?_)
        · replace h := ite_t hc78 h
          refine V.iload d_Mo_bestAwning_84 0 rfl ?_
          refine V.istore (lv' := [(4, .int r69), (6, .int r69), (0, rf Z 65), (1, .int a1), (2, .int a2), (3, .int x3), (5, .int x5)]) d_Mo_bestAwning_86 (by decide) rfl ?_
          refine V.iload d_Mo_bestAwning_88 6 rfl ?_
          refine V.istore_n (lv' := [(3, .int x5), (4, .int r69), (6, .int r69), (0, rf Z 65), (1, .int a1), (2, .int a2), (5, .int x5)]) d_Mo_bestAwning_90 rfl (by decide) rfl ?_
          exact V.pick [3, 4, 5, 0, 1, 6] rfl (J49_91 _ _ _ (Option.some.inj h).symm)
        · replace h := ite_f hc78 h
          refine V.goto (tgt := 91) d_Mo_bestAwning_81 (by decide) ?_
          exact V.pick [1, 2, 3, 4, 5, 6] rfl (J49_91 _ _ _ (Option.some.inj h).symm)
      · replace h := ite_t hc49 h
        refine V.goto (tgt := 91) d_Mo_bestAwning_52 (by decide) ?_
        exact V.pick [0, 1, 2, 3, 4, 5] rfl (J49_91 _ _ _ (Option.some.inj h).symm)
def f_Mo_bestAwning (N : Nat) (σ : Mem) (a1 : Int32) (a2 : Int32) : Option (Int32 × Mem) :=
  bnd1 (f_Mo_in a1 1 3) fun r3 =>
  if r3 = 0 then
    (some ((-1), σ))
  else
    (bnd1 (f_Mo_in a2 0 2) fun r12 =>
    if r12 = 0 then
      (some ((-1), σ))
    else
      (bnd1 (f_Mo_laysDay N σ) fun σ21 =>
      bnd1 (L_Mo_bestAwning_l32 N a1 a2 N (-1) (-1) 0 σ21) fun x32_ =>
      q3 x32_ fun z32_3 z32_4 σ32_ =>
      if z32_3 = (-1) then
        (some ((-2), σ32_))
      else
        (if a2 = 0 then
          (some (z32_3 / 4, σ32_))
        else
          (if a2 = 1 then
            (some (z32_3 - z32_3 / 4 * 4, σ32_))
          else
            (some (z32_4, σ32_))))))
set_option maxHeartbeats 4000000 in
set_option maxRecDepth 20000 in
theorem c_Mo_bestAwning (Z : ZX) {N : Nat} {σ : Mem} {a1 : Int32} {a2 : Int32} {r : Int32} {σ' : Mem} (h : f_Mo_bestAwning N σ a1 a2 = some (r, σ')) : CI Z 6 m_Mo_bestAwning [rf Z 65, .int a1, .int a2] σ r σ' := by
  refine Ct.of (by decide +kernel) (Nat.le_of_ble_eq_true rfl) (fun Y => ?_)
  show V (mkB Z) Y m_Mo_bestAwning 6 (QP (mkB Z) Y nC 0 0 (fun v t => v = some (.int r) ∧ t = σ')) 0 0 nC σ 0 [(0, rf Z 65), (1, .int a1), (2, .int a2)] []
  unfold f_Mo_bestAwning at h
  refine V.iload_n d_Mo_bestAwning_0 rfl 1 rfl ?_
  refine V.iconst (v := 1) d_Mo_bestAwning_1 (by decide) ?_
  refine V.iconst (v := 3) d_Mo_bestAwning_2 (by decide) ?_
  obtain ⟨r3, h1, h⟩ := bnd1_e h
  refine V.sI (as := [.int a1, .int 1, .int 3]) (st := []) (c_Mo_in Z h1) k_Mo_in lk_Mo_188 (by decide) rfl rfl (Nat.le_of_ble_eq_true rfl) d_Mo_bestAwning_3 ?_
  refine V.if_eq (tgt := 18) d_Mo_bestAwning_6 (by decide) (fun hc6 => ?_) (fun hc6 => ?_)
  · replace h := ite_t hc6 h
    refine V.iconst (v := (-1)) d_Mo_bestAwning_18 (by decide) ?_
    cases h
    exact V.iret rfl d_Mo_bestAwning_19 ⟨rfl, rfl⟩
  · replace h := ite_f hc6 h
    refine V.iload_n d_Mo_bestAwning_9 rfl 2 rfl ?_
    refine V.iconst (v := 0) d_Mo_bestAwning_10 (by decide) ?_
    refine V.iconst (v := 2) d_Mo_bestAwning_11 (by decide) ?_
    obtain ⟨r12, h1, h⟩ := bnd1_e h
    refine V.sI (as := [.int a2, .int 0, .int 2]) (st := []) (c_Mo_in Z h1) k_Mo_in lk_Mo_188 (by decide) rfl rfl (Nat.le_of_ble_eq_true rfl) d_Mo_bestAwning_12 ?_
    refine V.if_ne (tgt := 20) d_Mo_bestAwning_15 (by decide) (fun hc15 => ?_) (fun hc15 => ?_)
    · replace h := ite_f hc15 h
      refine V.aload_n d_Mo_bestAwning_20 rfl 0 rfl ?_
      obtain ⟨σ21, h1, h⟩ := bnd1_e h
      refine V.vN (as := []) (st := []) (c_Mo_laysDay Z h1) k_Mo_laysDay lk_Mo_370 (by decide) rfl (by decide) ly_65 ok_Mo.1 rfl (Nat.le_of_ble_eq_true rfl) d_Mo_bestAwning_21 ?_
      refine V.iconst (v := (-1)) d_Mo_bestAwning_24 (by decide) ?_
      refine V.istore_n (lv' := [(3, .int (-1)), (0, rf Z 65), (1, .int a1), (2, .int a2)]) d_Mo_bestAwning_25 rfl (by decide) rfl ?_
      refine V.iconst (v := (-1)) d_Mo_bestAwning_26 (by decide) ?_
      refine V.istore (lv' := [(4, .int (-1)), (3, .int (-1)), (0, rf Z 65), (1, .int a1), (2, .int a2)]) d_Mo_bestAwning_27 (by decide) rfl ?_
      refine V.iconst (v := 0) d_Mo_bestAwning_29 (by decide) ?_
      refine V.istore (lv' := [(5, .int 0), (4, .int (-1)), (3, .int (-1)), (0, rf Z 65), (1, .int a1), (2, .int a2)]) d_Mo_bestAwning_30 (by decide) rfl ?_
      obtain ⟨x32_, h1, h⟩ := bnd1_e h
      refine V.pick [3, 4, 5, 2, 1, 0] rfl (cL_Mo_bestAwning_l32 Z (Good := fun z => x32_ = z) (fun z32_3 z32_4 σ32_ he => ?_) N _ _ _ _ _ h1 rfl)
      · rw [he] at h
        replace h := q3_e h
        refine V.iload_n d_Mo_bestAwning_97 rfl 1 rfl ?_
        refine V.iconst (v := (-1)) d_Mo_bestAwning_98 (by decide) ?_
        refine V.icmp_ne (tgt := 105) d_Mo_bestAwning_99 (by decide) (fun hc99 => ?_) (fun hc99 => ?_)
        · replace h := ite_f hc99 h
          refine V.iload_n d_Mo_bestAwning_105 rfl 0 rfl ?_
          refine V.if_ne (tgt := 115) d_Mo_bestAwning_106 (by decide) (fun hc106 => ?_) (fun hc106 => ?_)
          · replace h := ite_f hc106 h
            refine V.iload_n d_Mo_bestAwning_115 rfl 0 rfl ?_
            refine V.iconst (v := 1) d_Mo_bestAwning_116 (by decide) ?_
            refine V.icmp_ne (tgt := 126) d_Mo_bestAwning_117 (by decide) (fun hc117 => ?_) (fun hc117 => ?_)
            · replace h := ite_f hc117 h
              refine V.iload d_Mo_bestAwning_126 2 rfl ?_
              cases h
              exact V.iret rfl d_Mo_bestAwning_128 ⟨rfl, rfl⟩
            · replace h := ite_t hc117 h
              refine V.iload_n d_Mo_bestAwning_120 rfl 1 rfl ?_
              refine V.iconst (v := 4) d_Mo_bestAwning_121 (by decide) ?_
              refine V.irem d_Mo_bestAwning_122 (by decide) ?_
              refine V.goto (tgt := 128) d_Mo_bestAwning_123 (by decide) ?_
              cases h
              exact V.iret rfl d_Mo_bestAwning_128 ⟨rfl, rfl⟩
          · replace h := ite_t hc106 h
            refine V.iload_n d_Mo_bestAwning_109 rfl 1 rfl ?_
            refine V.iconst (v := 4) d_Mo_bestAwning_110 (by decide) ?_
            refine V.idiv d_Mo_bestAwning_111 (by decide) ?_
            refine V.goto (tgt := 128) d_Mo_bestAwning_112 (by decide) ?_
            cases h
            exact V.iret rfl d_Mo_bestAwning_128 ⟨rfl, rfl⟩
        · replace h := ite_t hc99 h
          refine V.bipush (v := (-2)) d_Mo_bestAwning_102 (by decide) ?_
          cases h
          exact V.iret rfl d_Mo_bestAwning_104 ⟨rfl, rfl⟩
    · replace h := ite_t hc15 h
      refine V.iconst (v := (-1)) d_Mo_bestAwning_18 (by decide) ?_
      cases h
      exact V.iret rfl d_Mo_bestAwning_19 ⟨rfl, rfl⟩
abbrev m_Mo_hat : MI := (⟨"ShadeTownModel", "hat", "(IIII)I"⟩, prog_13_method_106_code, 8, (Option.some Jvm.ClassFile.FieldType.int))
theorem d_Mo_hat_0 : decode prog_13_method_106_code 0 = .ok (.aload_n 0, 1) := by decide +kernel
theorem d_Mo_hat_1 : decode prog_13_method_106_code 1 = .ok (.iload_n 1, 1) := by decide +kernel
theorem d_Mo_hat_2 : decode prog_13_method_106_code 2 = .ok (.invokevirtual 199, 3) := by decide +kernel
theorem d_Mo_hat_49 : decode prog_13_method_106_code 49 = .ok (.iconst (-1), 1) := by decide +kernel
theorem d_Mo_hat_50 : decode prog_13_method_106_code 50 = .ok (.ireturn, 1) := by decide +kernel
theorem d_Mo_hat_8 : decode prog_13_method_106_code 8 = .ok (.aload_n 0, 1) := by decide +kernel
theorem d_Mo_hat_9 : decode prog_13_method_106_code 9 = .ok (.getfield 7, 3) := by decide +kernel
theorem d_Mo_hat_12 : decode prog_13_method_106_code 12 = .ok (.iload_n 1, 1) := by decide +kernel
theorem d_Mo_hat_13 : decode prog_13_method_106_code 13 = .ok (.iaload, 1) := by decide +kernel
theorem d_Mo_hat_14 : decode prog_13_method_106_code 14 = .ok (.iconst 3, 1) := by decide +kernel
theorem d_Mo_hat_18 : decode prog_13_method_106_code 18 = .ok (.iload_n 2, 1) := by decide +kernel
theorem d_Mo_hat_19 : decode prog_13_method_106_code 19 = .ok (.iload_n 3, 1) := by decide +kernel
theorem d_Mo_hat_20 : decode prog_13_method_106_code 20 = .ok (.invokestatic 185, 3) := by decide +kernel
theorem d_Mo_hat_26 : decode prog_13_method_106_code 26 = .ok (.aload_n 0, 1) := by decide +kernel
theorem d_Mo_hat_27 : decode prog_13_method_106_code 27 = .ok (.bipush 12, 2) := by decide +kernel
theorem d_Mo_hat_29 : decode prog_13_method_106_code 29 = .ok (.iload_n 3, 1) := by decide +kernel
theorem d_Mo_hat_30 : decode prog_13_method_106_code 30 = .ok (.imul, 1) := by decide +kernel
theorem d_Mo_hat_31 : decode prog_13_method_106_code 31 = .ok (.iload_n 2, 1) := by decide +kernel
theorem d_Mo_hat_32 : decode prog_13_method_106_code 32 = .ok (.iadd, 1) := by decide +kernel
theorem d_Mo_hat_33 : decode prog_13_method_106_code 33 = .ok (.invokevirtual 192, 3) := by decide +kernel
theorem d_Mo_hat_39 : decode prog_13_method_106_code 39 = .ok (.iload 4, 2) := by decide +kernel
theorem d_Mo_hat_41 : decode prog_13_method_106_code 41 = .ok (.iconst 0, 1) := by decide +kernel
theorem d_Mo_hat_42 : decode prog_13_method_106_code 42 = .ok (.iconst 1, 1) := by decide +kernel
theorem d_Mo_hat_43 : decode prog_13_method_106_code 43 = .ok (.invokestatic 188, 3) := by decide +kernel
theorem d_Mo_hat_51 : decode prog_13_method_106_code 51 = .ok (.aload_n 0, 1) := by decide +kernel
theorem d_Mo_hat_52 : decode prog_13_method_106_code 52 = .ok (.invokevirtual 370, 3) := by decide +kernel
theorem d_Mo_hat_55 : decode prog_13_method_106_code 55 = .ok (.iconst 0, 1) := by decide +kernel
theorem d_Mo_hat_56 : decode prog_13_method_106_code 56 = .ok (.istore 5, 2) := by decide +kernel
theorem d_Mo_hat_58 : decode prog_13_method_106_code 58 = .ok (.iload 5, 2) := by decide +kernel
theorem d_Mo_hat_60 : decode prog_13_method_106_code 60 = .ok (.sipush 3456, 3) := by decide +kernel
theorem d_Mo_hat_66 : decode prog_13_method_106_code 66 = .ok (.aload_n 0, 1) := by decide +kernel
theorem fl_Mo_130 : FL "ShadeTownModel" 130 T_Mo 63 := atG 1395 (by decide +kernel) rfl
theorem d_Mo_hat_67 : decode prog_13_method_106_code 67 = .ok (.getfield 130, 3) := by decide +kernel
theorem d_Mo_hat_70 : decode prog_13_method_106_code 70 = .ok (.iload 5, 2) := by decide +kernel
theorem d_Mo_hat_72 : decode prog_13_method_106_code 72 = .ok (.aload_n 0, 1) := by decide +kernel
theorem d_Mo_hat_73 : decode prog_13_method_106_code 73 = .ok (.getfield 71, 3) := by decide +kernel
theorem d_Mo_hat_76 : decode prog_13_method_106_code 76 = .ok (.iload 5, 2) := by decide +kernel
theorem d_Mo_hat_78 : decode prog_13_method_106_code 78 = .ok (.iaload, 1) := by decide +kernel
theorem d_Mo_hat_86 : decode prog_13_method_106_code 86 = .ok (.iconst 0, 1) := by decide +kernel
theorem d_Mo_hat_82 : decode prog_13_method_106_code 82 = .ok (.iconst 1, 1) := by decide +kernel
theorem d_Mo_hat_83 : decode prog_13_method_106_code 83 = .ok (.goto 4, 3) := by decide +kernel
theorem d_Mo_hat_79 : decode prog_13_method_106_code 79 = .ok (.ifCond .eq 7, 3) := by decide +kernel
theorem d_Mo_hat_87 : decode prog_13_method_106_code 87 = .ok (.bastore, 1) := by decide +kernel
theorem d_Mo_hat_88 : decode prog_13_method_106_code 88 = .ok (.iinc 5 1, 3) := by decide +kernel
theorem d_Mo_hat_91 : decode prog_13_method_106_code 91 = .ok (.goto (-33), 3) := by decide +kernel
theorem d_Mo_hat_63 : decode prog_13_method_106_code 63 = .ok (.if_icmp .ge 31, 3) := by decide +kernel
theorem d_Mo_hat_94 : decode prog_13_method_106_code 94 = .ok (.aload_n 0, 1) := by decide +kernel
theorem d_Mo_hat_95 : decode prog_13_method_106_code 95 = .ok (.getfield 13, 3) := by decide +kernel
theorem d_Mo_hat_98 : decode prog_13_method_106_code 98 = .ok (.iload_n 1, 1) := by decide +kernel
theorem d_Mo_hat_99 : decode prog_13_method_106_code 99 = .ok (.iaload, 1) := by decide +kernel
theorem d_Mo_hat_100 : decode prog_13_method_106_code 100 = .ok (.istore 5, 2) := by decide +kernel
theorem d_Mo_hat_102 : decode prog_13_method_106_code 102 = .ok (.aload_n 0, 1) := by decide +kernel
theorem d_Mo_hat_103 : decode prog_13_method_106_code 103 = .ok (.getfield 13, 3) := by decide +kernel
theorem d_Mo_hat_106 : decode prog_13_method_106_code 106 = .ok (.iload_n 1, 1) := by decide +kernel
theorem d_Mo_hat_107 : decode prog_13_method_106_code 107 = .ok (.bipush 12, 2) := by decide +kernel
theorem d_Mo_hat_109 : decode prog_13_method_106_code 109 = .ok (.iload_n 3, 1) := by decide +kernel
theorem d_Mo_hat_110 : decode prog_13_method_106_code 110 = .ok (.imul, 1) := by decide +kernel
theorem d_Mo_hat_111 : decode prog_13_method_106_code 111 = .ok (.iload_n 2, 1) := by decide +kernel
theorem d_Mo_hat_112 : decode prog_13_method_106_code 112 = .ok (.iadd, 1) := by decide +kernel
theorem d_Mo_hat_113 : decode prog_13_method_106_code 113 = .ok (.iastore, 1) := by decide +kernel
theorem d_Mo_hat_114 : decode prog_13_method_106_code 114 = .ok (.aload_n 0, 1) := by decide +kernel
theorem d_Mo_hat_115 : decode prog_13_method_106_code 115 = .ok (.invokevirtual 370, 3) := by decide +kernel
theorem d_Mo_hat_118 : decode prog_13_method_106_code 118 = .ok (.aload_n 0, 1) := by decide +kernel
theorem d_Mo_hat_119 : decode prog_13_method_106_code 119 = .ok (.getfield 13, 3) := by decide +kernel
theorem d_Mo_hat_122 : decode prog_13_method_106_code 122 = .ok (.iload_n 1, 1) := by decide +kernel
theorem d_Mo_hat_123 : decode prog_13_method_106_code 123 = .ok (.iload 5, 2) := by decide +kernel
theorem d_Mo_hat_125 : decode prog_13_method_106_code 125 = .ok (.iastore, 1) := by decide +kernel
theorem d_Mo_hat_126 : decode prog_13_method_106_code 126 = .ok (.iconst 0, 1) := by decide +kernel
theorem d_Mo_hat_127 : decode prog_13_method_106_code 127 = .ok (.istore 6, 2) := by decide +kernel
theorem d_Mo_hat_129 : decode prog_13_method_106_code 129 = .ok (.iconst 0, 1) := by decide +kernel
theorem d_Mo_hat_130 : decode prog_13_method_106_code 130 = .ok (.istore 7, 2) := by decide +kernel
theorem d_Mo_hat_132 : decode prog_13_method_106_code 132 = .ok (.iload 7, 2) := by decide +kernel
theorem d_Mo_hat_134 : decode prog_13_method_106_code 134 = .ok (.sipush 3456, 3) := by decide +kernel
theorem d_Mo_hat_205 : decode prog_13_method_106_code 205 = .ok (.iload 6, 2) := by decide +kernel
theorem d_Mo_hat_207 : decode prog_13_method_106_code 207 = .ok (.ireturn, 1) := by decide +kernel
theorem d_Mo_hat_140 : decode prog_13_method_106_code 140 = .ok (.iload 6, 2) := by decide +kernel
theorem d_Mo_hat_142 : decode prog_13_method_106_code 142 = .ok (.aload_n 0, 1) := by decide +kernel
theorem d_Mo_hat_143 : decode prog_13_method_106_code 143 = .ok (.getfield 130, 3) := by decide +kernel
theorem d_Mo_hat_146 : decode prog_13_method_106_code 146 = .ok (.iload 7, 2) := by decide +kernel
theorem d_Mo_hat_148 : decode prog_13_method_106_code 148 = .ok (.baload, 1) := by decide +kernel
theorem d_Mo_hat_149 : decode prog_13_method_106_code 149 = .ok (.iload 4, 2) := by decide +kernel
theorem d_Mo_hat_151 : decode prog_13_method_106_code 151 = .ok (.iconst 1, 1) := by decide +kernel
theorem d_Mo_hat_159 : decode prog_13_method_106_code 159 = .ok (.iconst 0, 1) := by decide +kernel
theorem d_Mo_hat_155 : decode prog_13_method_106_code 155 = .ok (.iconst 1, 1) := by decide +kernel
theorem d_Mo_hat_156 : decode prog_13_method_106_code 156 = .ok (.goto 4, 3) := by decide +kernel
theorem d_Mo_hat_152 : decode prog_13_method_106_code 152 = .ok (.if_icmp .ne 7, 3) := by decide +kernel
theorem d_Mo_hat_195 : decode prog_13_method_106_code 195 = .ok (.iconst 0, 1) := by decide +kernel
theorem d_Mo_hat_163 : decode prog_13_method_106_code 163 = .ok (.aload_n 0, 1) := by decide +kernel
theorem d_Mo_hat_164 : decode prog_13_method_106_code 164 = .ok (.getfield 71, 3) := by decide +kernel
theorem d_Mo_hat_167 : decode prog_13_method_106_code 167 = .ok (.iload 7, 2) := by decide +kernel
theorem d_Mo_hat_169 : decode prog_13_method_106_code 169 = .ok (.iaload, 1) := by decide +kernel
theorem d_Mo_hat_177 : decode prog_13_method_106_code 177 = .ok (.iconst 0, 1) := by decide +kernel
theorem d_Mo_hat_173 : decode prog_13_method_106_code 173 = .ok (.iconst 1, 1) := by decide +kernel
theorem d_Mo_hat_174 : decode prog_13_method_106_code 174 = .ok (.goto 4, 3) := by decide +kernel
theorem d_Mo_hat_170 : decode prog_13_method_106_code 170 = .ok (.ifCond .eq 7, 3) := by decide +kernel
theorem d_Mo_hat_178 : decode prog_13_method_106_code 178 = .ok (.iload 4, 2) := by decide +kernel
theorem d_Mo_hat_187 : decode prog_13_method_106_code 187 = .ok (.iconst 0, 1) := by decide +kernel
theorem d_Mo_hat_183 : decode prog_13_method_106_code 183 = .ok (.iconst 1, 1) := by decide +kernel
theorem d_Mo_hat_184 : decode prog_13_method_106_code 184 = .ok (.goto 4, 3) := by decide +kernel
theorem d_Mo_hat_180 : decode prog_13_method_106_code 180 = .ok (.ifCond .ne 7, 3) := by decide +kernel
theorem d_Mo_hat_191 : decode prog_13_method_106_code 191 = .ok (.iconst 1, 1) := by decide +kernel
theorem d_Mo_hat_192 : decode prog_13_method_106_code 192 = .ok (.goto 4, 3) := by decide +kernel
theorem d_Mo_hat_188 : decode prog_13_method_106_code 188 = .ok (.if_icmp .ne 7, 3) := by decide +kernel
theorem d_Mo_hat_160 : decode prog_13_method_106_code 160 = .ok (.if_icmp .ne 35, 3) := by decide +kernel
theorem d_Mo_hat_196 : decode prog_13_method_106_code 196 = .ok (.iadd, 1) := by decide +kernel
theorem d_Mo_hat_197 : decode prog_13_method_106_code 197 = .ok (.istore 6, 2) := by decide +kernel
theorem d_Mo_hat_199 : decode prog_13_method_106_code 199 = .ok (.iinc 7 1, 3) := by decide +kernel
theorem d_Mo_hat_202 : decode prog_13_method_106_code 202 = .ok (.goto (-70), 3) := by decide +kernel
theorem d_Mo_hat_137 : decode prog_13_method_106_code 137 = .ok (.if_icmp .ge 68, 3) := by decide +kernel
theorem d_Mo_hat_46 : decode prog_13_method_106_code 46 = .ok (.ifCond .ne 5, 3) := by decide +kernel
theorem d_Mo_hat_36 : decode prog_13_method_106_code 36 = .ok (.ifCond .eq 13, 3) := by decide +kernel
theorem d_Mo_hat_23 : decode prog_13_method_106_code 23 = .ok (.ifCond .eq 26, 3) := by decide +kernel
theorem d_Mo_hat_15 : decode prog_13_method_106_code 15 = .ok (.if_icmp .ne 34, 3) := by decide +kernel
theorem d_Mo_hat_5 : decode prog_13_method_106_code 5 = .ok (.ifCond .eq 44, 3) := by decide +kernel
def B_Mo_hat_l58 (N : Nat) (a1 : Int32) (a2 : Int32) (a3 : Int32) (a4 : Int32) (rec : Int32 → Mem → Option (Mem)) (x5 : Int32) (σ : Mem) : Option (Mem) :=
  if 3456 ≤ x5 then
    (some σ)
  else
    (grd (inb x5 3456) <|
    bnd1 ((
      if (mI σ 86 (x5.toNatClampNeg)) = 0 then
        (some 0)
      else
        (some 1)) : Option (Int32)) fun y79_s2 =>
    grd (inb x5 3456) <|
    letv (sI σ 105 (x5.toNatClampNeg) (y79_s2 &&& 1)) fun σ87 =>
    letv (x5 + 1) fun v88 =>
    rec v88 σ87)
def L_Mo_hat_l58 (N : Nat) (a1 : Int32) (a2 : Int32) (a3 : Int32) (a4 : Int32) : Nat → Int32 → Mem → Option (Mem)
  | 0, _, _ => none
  | k + 1, x5, σ => B_Mo_hat_l58 N a1 a2 a3 a4 (L_Mo_hat_l58 N a1 a2 a3 a4 k) x5 σ
set_option maxHeartbeats 4000000 in
set_option maxRecDepth 20000 in
theorem cL_Mo_hat_l58 (Z : ZX) {Y : YX} {Q : State → Prop} {N : Nat} {a1 : Int32} {a2 : Int32} {a3 : Int32} {a4 : Int32} {Good : Mem → Prop} (hE : ∀ (σe : Mem), Good σe → V (mkB Z) Y m_Mo_hat 6 Q 0 0 nC σe 94 [(0, rf Z 65), (1, .int a1), (2, .int a2), (3, .int a3), (4, .int a4)] []) : ∀ (k : Nat) (x5 : Int32) (σ : Mem) (res : Mem), L_Mo_hat_l58 N a1 a2 a3 a4 k x5 σ = some res → Good res → V (mkB Z) Y m_Mo_hat 6 Q 0 0 nC σ 58 [(0, rf Z 65), (1, .int a1), (2, .int a2), (3, .int a3), (4, .int a4), (5, .int x5)] [] := by
  intro k
  induction k with
  | zero => intro x5 σ res h; cases h
  | succ k ih =>
    intro x5 σ res h hg
    replace h : B_Mo_hat_l58 N a1 a2 a3 a4 (L_Mo_hat_l58 N a1 a2 a3 a4 k) x5 σ = some res := h
    unfold B_Mo_hat_l58 at h
    refine V.iload d_Mo_hat_58 5 rfl ?_
    refine V.sipush (v := 3456) d_Mo_hat_60 (by decide) ?_
    refine V.icmp_ge (tgt := 94) d_Mo_hat_63 (by decide) (fun hc63 => ?_) (fun hc63 => ?_)
    · replace h := ite_t hc63 h
      cases h
      exact V.pick [0, 1, 2, 3, 4] rfl (hE _ hg)
    · replace h := ite_f hc63 h
      refine V.aload_n d_Mo_hat_66 rfl 0 rfl ?_
      refine V.getR (r := 105) ok_Mo fl_Mo_130 (by decide) (by decide) ly_65 rfl d_Mo_hat_67 ?_
      refine V.iload d_Mo_hat_70 5 rfl ?_
      refine V.aload_n d_Mo_hat_72 rfl 0 rfl ?_
      refine V.getR (r := 86) ok_Mo fl_Mo_71 (by decide) (by decide) ly_65 rfl d_Mo_hat_73 ?_
      refine V.iload d_Mo_hat_76 5 rfl ?_
      obtain ⟨gq, h⟩ := grd_e h
      refine V.ra (by decide) ly_86 (inb_e gq) rfl d_Mo_hat_78 ?_
      obtain ⟨s79, h1, h⟩ := bnd1_e h
      have J79_87 : ∀ (y79_s2 : Int32), s79 = y79_s2 → V (mkB Z) Y m_Mo_hat 6 Q 0 0 nC σ 87 [(0, rf Z 65), (1, .int a1), (2, .int a2), (3, .int a3), (4, .int a4), (5, .int x5)] [.int y79_s2, .int x5, rf Z 105] := by
        intro y79_s2 he
        rw [he] at h
        obtain ⟨gq, h⟩ := grd_e h
        obtain ⟨σ87, e_σ87, h⟩ := letv_e h
        refine V.wz (by decide) ly_105 (inb_e gq) rfl d_Mo_hat_87 e_σ87 ?_
        obtain ⟨v88, e_v88, h⟩ := letv_e h
        refine V.iinc (v := v88) (lv' := [(5, .int v88), (0, rf Z 65), (1, .int a1), (2, .int a2), (3, .int a3), (4, .int a4)]) d_Mo_hat_88 5 rfl (by rw [e_v88]; rfl) (by decide) rfl ?_
        refine V.goto (tgt := 58) d_Mo_hat_91 (by decide) ?_
        exact V.pick [1, 2, 3, 4, 5, 0] rfl (ih _ _ _ h hg)
      replace h := h1
      refine V.if_eq (tgt := 86) d_Mo_hat_79 (by decide) (fun hc79 => ?_) (fun hc79 => ?_)
      · replace h := ite_t hc79 h
        refine V.iconst (v := 0) d_Mo_hat_86 (by decide) ?_
        exact V.pick [0, 1, 2, 3, 4, 5] rfl (J79_87 _ (Option.some.inj h).symm)
      · replace h := ite_f hc79 h
        refine V.iconst (v := 1) d_Mo_hat_82 (by decide) ?_
        refine V.goto (tgt := 87) d_Mo_hat_83 (by decide) ?_
        exact V.pick [0, 1, 2, 3, 4, 5] rfl (J79_87 _ (Option.some.inj h).symm)
def B_Mo_hat_l132 (N : Nat) (a4 : Int32) (rec : Int32 → Int32 → Mem → Option (Int32 × Mem)) (x6 : Int32) (x7 : Int32) (σ : Mem) : Option (Int32 × Mem) :=
  if 3456 ≤ x7 then
    (some (x6, σ))
  else
    (grd (inb x7 3456) <|
    bnd1 ((
      if a4 = 1 then
        (some 1)
      else
        (some 0)) : Option (Int32)) fun y152_s2 =>
    bnd1 ((
      if (mI σ 105 (x7.toNatClampNeg)) = y152_s2 then
        (grd (inb x7 3456) <|
        bnd1 ((
          if (mI σ 86 (x7.toNatClampNeg)) = 0 then
            (some 0)
          else
            (some 1)) : Option (Int32)) fun y170_s1 =>
        bnd1 ((
          if a4 = 0 then
            (some 1)
          else
            (some 0)) : Option (Int32)) fun y180_s2 =>
        if y170_s1 = y180_s2 then
          (some 1)
        else
          (some 0))
      else
        (some 0)) : Option (Int32)) fun y160_s1 =>
    letv (x6 + y160_s1) fun v197 =>
    letv (x7 + 1) fun v199 =>
    rec v197 v199 σ)
def L_Mo_hat_l132 (N : Nat) (a4 : Int32) : Nat → Int32 → Int32 → Mem → Option (Int32 × Mem)
  | 0, _, _, _ => none
  | k + 1, x6, x7, σ => B_Mo_hat_l132 N a4 (L_Mo_hat_l132 N a4 k) x6 x7 σ
set_option maxHeartbeats 4000000 in
set_option maxRecDepth 20000 in
theorem cL_Mo_hat_l132 (Z : ZX) {Y : YX} {post : Option Value → Mem → Prop} {N : Nat} {a4 : Int32} {Good : Int32 × Mem → Prop} (hR : ∀ (v : Int32) (σr : Mem), Good (v, σr) → post (some (.int v)) σr) : ∀ (k : Nat) (x6 : Int32) (x7 : Int32) (σ : Mem) (res : Int32 × Mem), L_Mo_hat_l132 N a4 k x6 x7 σ = some res → Good res → V (mkB Z) Y m_Mo_hat 6 (QP (mkB Z) Y nC 0 0 post) 0 0 nC σ 132 [(0, rf Z 65), (4, .int a4), (6, .int x6), (7, .int x7)] [] := by
  intro k
  induction k with
  | zero => intro x6 x7 σ res h; cases h
  | succ k ih =>
    intro x6 x7 σ res h hg
    replace h : B_Mo_hat_l132 N a4 (L_Mo_hat_l132 N a4 k) x6 x7 σ = some res := h
    unfold B_Mo_hat_l132 at h
    refine V.iload d_Mo_hat_132 3 rfl ?_
    refine V.sipush (v := 3456) d_Mo_hat_134 (by decide) ?_
    refine V.icmp_ge (tgt := 205) d_Mo_hat_137 (by decide) (fun hc137 => ?_) (fun hc137 => ?_)
    · replace h := ite_t hc137 h
      refine V.iload d_Mo_hat_205 2 rfl ?_
      cases h
      exact V.iret rfl d_Mo_hat_207 (hR _ _ hg)
    · replace h := ite_f hc137 h
      refine V.iload d_Mo_hat_140 2 rfl ?_
      refine V.aload_n d_Mo_hat_142 rfl 0 rfl ?_
      refine V.getR (r := 105) ok_Mo fl_Mo_130 (by decide) (by decide) ly_65 rfl d_Mo_hat_143 ?_
      refine V.iload d_Mo_hat_146 3 rfl ?_
      obtain ⟨gq, h⟩ := grd_e h
      refine V.rz (by decide) ly_105 (inb_e gq) rfl d_Mo_hat_148 ?_
      refine V.iload d_Mo_hat_149 1 rfl ?_
      refine V.iconst (v := 1) d_Mo_hat_151 (by decide) ?_
      obtain ⟨s152, h1, h⟩ := bnd1_e h
      have J152_160 : ∀ (y152_s2 : Int32), s152 = y152_s2 → V (mkB Z) Y m_Mo_hat 6 (QP (mkB Z) Y nC 0 0 post) 0 0 nC σ 160 [(0, rf Z 65), (4, .int a4), (7, .int x7)] [.int y152_s2, .int (mI σ 105 (x7.toNatClampNeg)), .int x6] := by
        intro y152_s2 he
        rw [he] at h
        obtain ⟨s160, h1, h⟩ := bnd1_e h
        have J160_196 : ∀ (y160_s1 : Int32), s160 = y160_s1 → V (mkB Z) Y m_Mo_hat 6 (QP (mkB Z) Y nC 0 0 post) 0 0 nC σ 196 [(0, rf Z 65), (4, .int a4), (7, .int x7)] [.int y160_s1, .int x6] := by
          intro y160_s1 he
          rw [he] at h
          refine V.iadd d_Mo_hat_196 ?_
          obtain ⟨v197, e_v197, h⟩ := letv_e h
          refine V.topI e_v197 ?_
          refine V.istore (lv' := [(6, .int v197), (0, rf Z 65), (4, .int a4), (7, .int x7)]) d_Mo_hat_197 (by decide) rfl ?_
          obtain ⟨v199, e_v199, h⟩ := letv_e h
          refine V.iinc (v := v199) (lv' := [(7, .int v199), (6, .int v197), (0, rf Z 65), (4, .int a4)]) d_Mo_hat_199 3 rfl (by rw [e_v199]; rfl) (by decide) rfl ?_
          refine V.goto (tgt := 132) d_Mo_hat_202 (by decide) ?_
          exact V.pick [2, 3, 1, 0] rfl (ih _ _ _ _ h hg)
        replace h := h1
        refine V.icmp_ne (tgt := 195) d_Mo_hat_160 (by decide) (fun hc160 => ?_) (fun hc160 => ?_)
        · replace h := ite_f hc160 h
          refine V.iconst (v := 0) d_Mo_hat_195 (by decide) ?_
          exact V.pick [0, 1, 2] rfl (J160_196 _ (Option.some.inj h).symm)
        · replace h := ite_t hc160 h
          refine V.aload_n d_Mo_hat_163 rfl 0 rfl ?_
          refine V.getR (r := 86) ok_Mo fl_Mo_71 (by decide) (by decide) ly_65 rfl d_Mo_hat_164 ?_
          refine V.iload d_Mo_hat_167 2 rfl ?_
          obtain ⟨gq, h⟩ := grd_e h
          refine V.ra (by decide) ly_86 (inb_e gq) rfl d_Mo_hat_169 ?_
          obtain ⟨s170, h1, h⟩ := bnd1_e h
          have J170_178 : ∀ (y170_s1 : Int32), s170 = y170_s1 → V (mkB Z) Y m_Mo_hat 6 (QP (mkB Z) Y nC 0 0 post) 0 0 nC σ 178 [(0, rf Z 65), (4, .int a4), (7, .int x7)] [.int y170_s1, .int x6] := by
            intro y170_s1 he
            rw [he] at h
            refine V.iload d_Mo_hat_178 1 rfl ?_
            obtain ⟨s180, h1, h⟩ := bnd1_e h
            have J180_188 : ∀ (y180_s2 : Int32), s180 = y180_s2 → V (mkB Z) Y m_Mo_hat 6 (QP (mkB Z) Y nC 0 0 post) 0 0 nC σ 188 [(0, rf Z 65), (4, .int a4), (7, .int x7)] [.int y180_s2, .int y170_s1, .int x6] := by
              intro y180_s2 he
              rw [he] at h
              refine V.icmp_ne (tgt := 195) d_Mo_hat_188 (by decide) (fun hc188 => ?_) (fun hc188 => ?_)
              · replace h := ite_f hc188 h
                refine V.iconst (v := 0) d_Mo_hat_195 (by decide) ?_
                exact V.pick [0, 1, 2] rfl (J160_196 _ (Option.some.inj h).symm)
              · replace h := ite_t hc188 h
                refine V.iconst (v := 1) d_Mo_hat_191 (by decide) ?_
                refine V.goto (tgt := 196) d_Mo_hat_192 (by decide) ?_
                exact V.pick [0, 1, 2] rfl (J160_196 _ (Option.some.inj h).symm)
            replace h := h1
            refine V.if_ne (tgt := 187) d_Mo_hat_180 (by decide) (fun hc180 => ?_) (fun hc180 => ?_)
            · replace h := ite_f hc180 h
              refine V.iconst (v := 0) d_Mo_hat_187 (by decide) ?_
              exact V.pick [0, 1, 2] rfl (J180_188 _ (Option.some.inj h).symm)
            · replace h := ite_t hc180 h
              refine V.iconst (v := 1) d_Mo_hat_183 (by decide) ?_
              refine V.goto (tgt := 188) d_Mo_hat_184 (by decide) ?_
              exact V.pick [0, 1, 2] rfl (J180_188 _ (Option.some.inj h).symm)
          replace h := h1
          refine V.if_eq (tgt := 177) d_Mo_hat_170 (by decide) (fun hc170 => ?_) (fun hc170 => ?_)
          · replace h := ite_t hc170 h
            refine V.iconst (v := 0) d_Mo_hat_177 (by decide) ?_
            exact V.pick [0, 1, 2] rfl (J170_178 _ (Option.some.inj h).symm)
          · replace h := ite_f hc170 h
            refine V.iconst (v := 1) d_Mo_hat_173 (by decide) ?_
            refine V.goto (tgt := 178) d_Mo_hat_174 (by decide) ?_
            exact V.pick [0, 1, 2] rfl (J170_178 _ (Option.some.inj h).symm)
      replace h := h1
      refine V.icmp_ne (tgt := 159) d_Mo_hat_152 (by decide) (fun hc152 => ?_) (fun hc152 => ?_)
      · replace h := ite_f hc152 h
        refine V.iconst (v := 0) d_Mo_hat_159 (by decide) ?_
        exact V.pick [0, 1, 3] rfl (J152_160 _ (Option.some.inj h).symm)
      · replace h := ite_t hc152 h
        refine V.iconst (v := 1) d_Mo_hat_155 (by decide) ?_
        refine V.goto (tgt := 160) d_Mo_hat_156 (by decide) ?_
        exact V.pick [0, 1, 3] rfl (J152_160 _ (Option.some.inj h).symm)
def f_Mo_hat (N : Nat) (σ : Mem) (a1 : Int32) (a2 : Int32) (a3 : Int32) (a4 : Int32) : Option (Int32 × Mem) :=
  bnd1 (f_Mo_stands σ a1) fun r2 =>
  if r2 = 0 then
    (some ((-1), σ))
  else
    (grd (inb a1 17) <|
    if (mI σ 66 (a1.toNatClampNeg)) = 3 then
      (bnd1 (f_Mo_isIn a2 a3) fun r20 =>
      if r20 = 0 then
        (some ((-1), σ))
      else
        (bnd1 (f_Mo_isFree N σ ((12 * a3) + a2)) fun r33 =>
        if r33 = 0 then
          (some ((-1), σ))
        else
          (bnd1 (f_Mo_in a4 0 1) fun r43 =>
          if r43 = 0 then
            (some ((-1), σ))
          else
            (bnd1 (f_Mo_laysDay N σ) fun σ52 =>
            bnd1 (L_Mo_hat_l58 N a1 a2 a3 a4 N 0 σ52) fun σ58_ =>
            grd (inb a1 17) <|
            letv (mI σ58_ 67 (a1.toNatClampNeg)) fun v100 =>
            grd (inb a1 17) <|
            letv (sI σ58_ 67 (a1.toNatClampNeg) ((12 * a3) + a2)) fun σ113 =>
            bnd1 (f_Mo_laysDay N σ113) fun σ115 =>
            grd (inb a1 17) <|
            letv (sI σ115 67 (a1.toNatClampNeg) v100) fun σ125 =>
            L_Mo_hat_l132 N a4 N 0 0 σ125))))
    else
      (some ((-1), σ)))
set_option maxHeartbeats 4000000 in
set_option maxRecDepth 20000 in
theorem c_Mo_hat (Z : ZX) {N : Nat} {σ : Mem} {a1 : Int32} {a2 : Int32} {a3 : Int32} {a4 : Int32} {r : Int32} {σ' : Mem} (h : f_Mo_hat N σ a1 a2 a3 a4 = some (r, σ')) : CI Z 6 m_Mo_hat [rf Z 65, .int a1, .int a2, .int a3, .int a4] σ r σ' := by
  refine Ct.of (by decide +kernel) (Nat.le_of_ble_eq_true rfl) (fun Y => ?_)
  show V (mkB Z) Y m_Mo_hat 6 (QP (mkB Z) Y nC 0 0 (fun v t => v = some (.int r) ∧ t = σ')) 0 0 nC σ 0 [(0, rf Z 65), (1, .int a1), (2, .int a2), (3, .int a3), (4, .int a4)] []
  unfold f_Mo_hat at h
  refine V.aload_n d_Mo_hat_0 rfl 0 rfl ?_
  refine V.iload_n d_Mo_hat_1 rfl 1 rfl ?_
  obtain ⟨r2, h1, h⟩ := bnd1_e h
  refine V.vI (as := [.int a1]) (st := []) (c_Mo_stands Z h1) k_Mo_stands lk_Mo_199 (by decide) rfl (by decide) ly_65 ok_Mo.1 rfl (Nat.le_of_ble_eq_true rfl) d_Mo_hat_2 ?_
  refine V.if_eq (tgt := 49) d_Mo_hat_5 (by decide) (fun hc5 => ?_) (fun hc5 => ?_)
  · replace h := ite_t hc5 h
    refine V.iconst (v := (-1)) d_Mo_hat_49 (by decide) ?_
    cases h
    exact V.iret rfl d_Mo_hat_50 ⟨rfl, rfl⟩
  · replace h := ite_f hc5 h
    refine V.aload_n d_Mo_hat_8 rfl 0 rfl ?_
    refine V.getR (r := 66) ok_Mo fl_Mo_7 (by decide) (by decide) ly_65 rfl d_Mo_hat_9 ?_
    refine V.iload_n d_Mo_hat_12 rfl 1 rfl ?_
    obtain ⟨gq, h⟩ := grd_e h
    refine V.ra (by decide) ly_66 (inb_e gq) rfl d_Mo_hat_13 ?_
    refine V.iconst (v := 3) d_Mo_hat_14 (by decide) ?_
    refine V.icmp_ne (tgt := 49) d_Mo_hat_15 (by decide) (fun hc15 => ?_) (fun hc15 => ?_)
    · replace h := ite_f hc15 h
      refine V.iconst (v := (-1)) d_Mo_hat_49 (by decide) ?_
      cases h
      exact V.iret rfl d_Mo_hat_50 ⟨rfl, rfl⟩
    · replace h := ite_t hc15 h
      refine V.iload_n d_Mo_hat_18 rfl 2 rfl ?_
      refine V.iload_n d_Mo_hat_19 rfl 3 rfl ?_
      obtain ⟨r20, h1, h⟩ := bnd1_e h
      refine V.sI (as := [.int a2, .int a3]) (st := []) (c_Mo_isIn Z h1) k_Mo_isIn lk_Mo_185 (by decide) rfl rfl (Nat.le_of_ble_eq_true rfl) d_Mo_hat_20 ?_
      refine V.if_eq (tgt := 49) d_Mo_hat_23 (by decide) (fun hc23 => ?_) (fun hc23 => ?_)
      · replace h := ite_t hc23 h
        refine V.iconst (v := (-1)) d_Mo_hat_49 (by decide) ?_
        cases h
        exact V.iret rfl d_Mo_hat_50 ⟨rfl, rfl⟩
      · replace h := ite_f hc23 h
        refine V.aload_n d_Mo_hat_26 rfl 0 rfl ?_
        refine V.bipush (v := 12) d_Mo_hat_27 (by decide) ?_
        refine V.iload_n d_Mo_hat_29 rfl 3 rfl ?_
        refine V.imul d_Mo_hat_30 ?_
        refine V.iload_n d_Mo_hat_31 rfl 2 rfl ?_
        refine V.iadd d_Mo_hat_32 ?_
        obtain ⟨r33, h1, h⟩ := bnd1_e h
        refine V.vI (as := [.int ((12 * a3) + a2)]) (st := []) (c_Mo_isFree Z h1) k_Mo_isFree lk_Mo_192 (by decide) rfl (by decide) ly_65 ok_Mo.1 rfl (Nat.le_of_ble_eq_true rfl) d_Mo_hat_33 ?_
        refine V.if_eq (tgt := 49) d_Mo_hat_36 (by decide) (fun hc36 => ?_) (fun hc36 => ?_)
        · replace h := ite_t hc36 h
          refine V.iconst (v := (-1)) d_Mo_hat_49 (by decide) ?_
          cases h
          exact V.iret rfl d_Mo_hat_50 ⟨rfl, rfl⟩
        · replace h := ite_f hc36 h
          refine V.iload d_Mo_hat_39 4 rfl ?_
          refine V.iconst (v := 0) d_Mo_hat_41 (by decide) ?_
          refine V.iconst (v := 1) d_Mo_hat_42 (by decide) ?_
          obtain ⟨r43, h1, h⟩ := bnd1_e h
          refine V.sI (as := [.int a4, .int 0, .int 1]) (st := []) (c_Mo_in Z h1) k_Mo_in lk_Mo_188 (by decide) rfl rfl (Nat.le_of_ble_eq_true rfl) d_Mo_hat_43 ?_
          refine V.if_ne (tgt := 51) d_Mo_hat_46 (by decide) (fun hc46 => ?_) (fun hc46 => ?_)
          · replace h := ite_f hc46 h
            refine V.aload_n d_Mo_hat_51 rfl 0 rfl ?_
            obtain ⟨σ52, h1, h⟩ := bnd1_e h
            refine V.vN (as := []) (st := []) (c_Mo_laysDay Z h1) k_Mo_laysDay lk_Mo_370 (by decide) rfl (by decide) ly_65 ok_Mo.1 rfl (Nat.le_of_ble_eq_true rfl) d_Mo_hat_52 ?_
            refine V.iconst (v := 0) d_Mo_hat_55 (by decide) ?_
            refine V.istore (lv' := [(5, .int 0), (0, rf Z 65), (1, .int a1), (2, .int a2), (3, .int a3), (4, .int a4)]) d_Mo_hat_56 (by decide) rfl ?_
            obtain ⟨x58_, h1, h⟩ := bnd1_e h
            refine V.pick [1, 2, 3, 4, 5, 0] rfl (cL_Mo_hat_l58 Z (Good := fun z => x58_ = z) (fun σ58_ he => ?_) N _ _ _ h1 rfl)
            · rw [he] at h
              refine V.aload_n d_Mo_hat_94 rfl 0 rfl ?_
              refine V.getR (r := 67) ok_Mo fl_Mo_13 (by decide) (by decide) ly_65 rfl d_Mo_hat_95 ?_
              refine V.iload_n d_Mo_hat_98 rfl 1 rfl ?_
              obtain ⟨gq, h⟩ := grd_e h
              refine V.ra (by decide) ly_67 (inb_e gq) rfl d_Mo_hat_99 ?_
              obtain ⟨v100, e_v100, h⟩ := letv_e h
              refine V.topI e_v100 ?_
              refine V.istore (lv' := [(5, .int v100), (0, rf Z 65), (1, .int a1), (2, .int a2), (3, .int a3), (4, .int a4)]) d_Mo_hat_100 (by decide) rfl ?_
              refine V.aload_n d_Mo_hat_102 rfl 1 rfl ?_
              refine V.getR (r := 67) ok_Mo fl_Mo_13 (by decide) (by decide) ly_65 rfl d_Mo_hat_103 ?_
              refine V.iload_n d_Mo_hat_106 rfl 2 rfl ?_
              refine V.bipush (v := 12) d_Mo_hat_107 (by decide) ?_
              refine V.iload_n d_Mo_hat_109 rfl 4 rfl ?_
              refine V.imul d_Mo_hat_110 ?_
              refine V.iload_n d_Mo_hat_111 rfl 3 rfl ?_
              refine V.iadd d_Mo_hat_112 ?_
              obtain ⟨gq, h⟩ := grd_e h
              obtain ⟨σ113, e_σ113, h⟩ := letv_e h
              refine V.wa (by decide) ly_67 (inb_e gq) rfl d_Mo_hat_113 e_σ113 ?_
              refine V.aload_n d_Mo_hat_114 rfl 1 rfl ?_
              obtain ⟨σ115, h1, h⟩ := bnd1_e h
              refine V.vN (as := []) (st := []) (c_Mo_laysDay Z h1) k_Mo_laysDay lk_Mo_370 (by decide) rfl (by decide) ly_65 ok_Mo.1 rfl (Nat.le_of_ble_eq_true rfl) d_Mo_hat_115 ?_
              refine V.aload_n d_Mo_hat_118 rfl 1 rfl ?_
              refine V.getR (r := 67) ok_Mo fl_Mo_13 (by decide) (by decide) ly_65 rfl d_Mo_hat_119 ?_
              refine V.iload_n d_Mo_hat_122 rfl 2 rfl ?_
              refine V.iload d_Mo_hat_123 0 rfl ?_
              obtain ⟨gq, h⟩ := grd_e h
              obtain ⟨σ125, e_σ125, h⟩ := letv_e h
              refine V.wa (by decide) ly_67 (inb_e gq) rfl d_Mo_hat_125 e_σ125 ?_
              refine V.iconst (v := 0) d_Mo_hat_126 (by decide) ?_
              refine V.istore (lv' := [(6, .int 0), (5, .int v100), (0, rf Z 65), (1, .int a1), (2, .int a2), (3, .int a3), (4, .int a4)]) d_Mo_hat_127 (by decide) rfl ?_
              refine V.iconst (v := 0) d_Mo_hat_129 (by decide) ?_
              refine V.istore (lv' := [(7, .int 0), (6, .int 0), (5, .int v100), (0, rf Z 65), (1, .int a1), (2, .int a2), (3, .int a3), (4, .int a4)]) d_Mo_hat_130 (by decide) rfl ?_
              refine V.pick [3, 7, 1, 0] rfl (cL_Mo_hat_l132 Z (Good := fun z => z = _) (fun r132v r132m he => ?_) N _ _ _ _ h rfl)
              · cases he
                exact ⟨rfl, rfl⟩
          · replace h := ite_t hc46 h
            refine V.iconst (v := (-1)) d_Mo_hat_49 (by decide) ?_
            cases h
            exact V.iret rfl d_Mo_hat_50 ⟨rfl, rfl⟩
abbrev m_Mo_laysUnder : MI := (⟨"ShadeTownModel", "laysUnder", "()V"⟩, prog_13_method_107_code, 3, (Option.none : Option Jvm.ClassFile.FieldType))
theorem d_Mo_laysUnder_0 : decode prog_13_method_107_code 0 = .ok (.iconst 0, 1) := by decide +kernel
theorem d_Mo_laysUnder_1 : decode prog_13_method_107_code 1 = .ok (.istore_n 1, 1) := by decide +kernel
theorem d_Mo_laysUnder_2 : decode prog_13_method_107_code 2 = .ok (.iload_n 1, 1) := by decide +kernel
theorem d_Mo_laysUnder_3 : decode prog_13_method_107_code 3 = .ok (.sipush 144, 3) := by decide +kernel
theorem d_Mo_laysUnder_9 : decode prog_13_method_107_code 9 = .ok (.aload_n 0, 1) := by decide +kernel
theorem d_Mo_laysUnder_10 : decode prog_13_method_107_code 10 = .ok (.getfield 78, 3) := by decide +kernel
theorem d_Mo_laysUnder_13 : decode prog_13_method_107_code 13 = .ok (.iload_n 1, 1) := by decide +kernel
theorem d_Mo_laysUnder_14 : decode prog_13_method_107_code 14 = .ok (.iconst 1, 1) := by decide +kernel
theorem d_Mo_laysUnder_15 : decode prog_13_method_107_code 15 = .ok (.bastore, 1) := by decide +kernel
theorem d_Mo_laysUnder_16 : decode prog_13_method_107_code 16 = .ok (.iinc 1 1, 3) := by decide +kernel
theorem d_Mo_laysUnder_19 : decode prog_13_method_107_code 19 = .ok (.goto (-17), 3) := by decide +kernel
theorem d_Mo_laysUnder_6 : decode prog_13_method_107_code 6 = .ok (.if_icmp .ge 16, 3) := by decide +kernel
theorem d_Mo_laysUnder_22 : decode prog_13_method_107_code 22 = .ok (.iconst 0, 1) := by decide +kernel
theorem d_Mo_laysUnder_23 : decode prog_13_method_107_code 23 = .ok (.istore_n 1, 1) := by decide +kernel
theorem d_Mo_laysUnder_24 : decode prog_13_method_107_code 24 = .ok (.iload_n 1, 1) := by decide +kernel
theorem d_Mo_laysUnder_25 : decode prog_13_method_107_code 25 = .ok (.bipush 24, 2) := by decide +kernel
theorem d_Mo_laysUnder_30 : decode prog_13_method_107_code 30 = .ok (.aload_n 0, 1) := by decide +kernel
theorem d_Mo_laysUnder_31 : decode prog_13_method_107_code 31 = .ok (.iload_n 1, 1) := by decide +kernel
theorem d_Mo_laysUnder_32 : decode prog_13_method_107_code 32 = .ok (.invokevirtual 367, 3) := by decide +kernel
theorem d_Mo_laysUnder_35 : decode prog_13_method_107_code 35 = .ok (.iinc 1 1, 3) := by decide +kernel
theorem d_Mo_laysUnder_38 : decode prog_13_method_107_code 38 = .ok (.goto (-14), 3) := by decide +kernel
theorem d_Mo_laysUnder_27 : decode prog_13_method_107_code 27 = .ok (.if_icmp .ge 14, 3) := by decide +kernel
theorem d_Mo_laysUnder_41 : decode prog_13_method_107_code 41 = .ok (.iconst 0, 1) := by decide +kernel
theorem d_Mo_laysUnder_42 : decode prog_13_method_107_code 42 = .ok (.istore_n 1, 1) := by decide +kernel
theorem d_Mo_laysUnder_43 : decode prog_13_method_107_code 43 = .ok (.iload_n 1, 1) := by decide +kernel
theorem d_Mo_laysUnder_44 : decode prog_13_method_107_code 44 = .ok (.bipush 16, 2) := by decide +kernel
theorem d_Mo_laysUnder_152 : decode prog_13_method_107_code 152 = .ok (.return_, 1) := by decide +kernel
theorem d_Mo_laysUnder_49 : decode prog_13_method_107_code 49 = .ok (.aload_n 0, 1) := by decide +kernel
theorem fl_Mo_133 : FL "ShadeTownModel" 133 T_Mo 64 := atG 1396 (by decide +kernel) rfl
theorem d_Mo_laysUnder_50 : decode prog_13_method_107_code 50 = .ok (.getfield 133, 3) := by decide +kernel
theorem d_Mo_laysUnder_53 : decode prog_13_method_107_code 53 = .ok (.iload_n 1, 1) := by decide +kernel
theorem d_Mo_laysUnder_54 : decode prog_13_method_107_code 54 = .ok (.iconst 0, 1) := by decide +kernel
theorem d_Mo_laysUnder_55 : decode prog_13_method_107_code 55 = .ok (.iastore, 1) := by decide +kernel
theorem d_Mo_laysUnder_56 : decode prog_13_method_107_code 56 = .ok (.aload_n 0, 1) := by decide +kernel
theorem fl_Mo_136 : FL "ShadeTownModel" 136 T_Mo 65 := atG 1397 (by decide +kernel) rfl
theorem d_Mo_laysUnder_57 : decode prog_13_method_107_code 57 = .ok (.getfield 136, 3) := by decide +kernel
theorem d_Mo_laysUnder_60 : decode prog_13_method_107_code 60 = .ok (.iload_n 1, 1) := by decide +kernel
theorem d_Mo_laysUnder_61 : decode prog_13_method_107_code 61 = .ok (.iconst (-1), 1) := by decide +kernel
theorem d_Mo_laysUnder_62 : decode prog_13_method_107_code 62 = .ok (.iastore, 1) := by decide +kernel
theorem d_Mo_laysUnder_63 : decode prog_13_method_107_code 63 = .ok (.aload_n 0, 1) := by decide +kernel
theorem d_Mo_laysUnder_64 : decode prog_13_method_107_code 64 = .ok (.iload_n 1, 1) := by decide +kernel
theorem d_Mo_laysUnder_65 : decode prog_13_method_107_code 65 = .ok (.invokevirtual 486, 3) := by decide +kernel
theorem d_Mo_laysUnder_71 : decode prog_13_method_107_code 71 = .ok (.aload_n 0, 1) := by decide +kernel
theorem d_Mo_laysUnder_72 : decode prog_13_method_107_code 72 = .ok (.getfield 124, 3) := by decide +kernel
theorem d_Mo_laysUnder_75 : decode prog_13_method_107_code 75 = .ok (.iload_n 1, 1) := by decide +kernel
theorem d_Mo_laysUnder_76 : decode prog_13_method_107_code 76 = .ok (.baload, 1) := by decide +kernel
theorem d_Mo_laysUnder_83 : decode prog_13_method_107_code 83 = .ok (.aload_n 0, 1) := by decide +kernel
theorem d_Mo_laysUnder_84 : decode prog_13_method_107_code 84 = .ok (.getfield 136, 3) := by decide +kernel
theorem d_Mo_laysUnder_87 : decode prog_13_method_107_code 87 = .ok (.iload_n 1, 1) := by decide +kernel
theorem d_Mo_laysUnder_88 : decode prog_13_method_107_code 88 = .ok (.aload_n 0, 1) := by decide +kernel
theorem d_Mo_laysUnder_89 : decode prog_13_method_107_code 89 = .ok (.aload_n 0, 1) := by decide +kernel
theorem d_Mo_laysUnder_90 : decode prog_13_method_107_code 90 = .ok (.getfield 112, 3) := by decide +kernel
theorem d_Mo_laysUnder_93 : decode prog_13_method_107_code 93 = .ok (.iload_n 1, 1) := by decide +kernel
theorem d_Mo_laysUnder_94 : decode prog_13_method_107_code 94 = .ok (.iaload, 1) := by decide +kernel
theorem d_Mo_laysUnder_95 : decode prog_13_method_107_code 95 = .ok (.invokevirtual 181, 3) := by decide +kernel
theorem d_Mo_laysUnder_98 : decode prog_13_method_107_code 98 = .ok (.iastore, 1) := by decide +kernel
theorem d_Mo_laysUnder_99 : decode prog_13_method_107_code 99 = .ok (.aload_n 0, 1) := by decide +kernel
theorem d_Mo_laysUnder_100 : decode prog_13_method_107_code 100 = .ok (.getfield 115, 3) := by decide +kernel
theorem d_Mo_laysUnder_103 : decode prog_13_method_107_code 103 = .ok (.iload_n 1, 1) := by decide +kernel
theorem d_Mo_laysUnder_104 : decode prog_13_method_107_code 104 = .ok (.iaload, 1) := by decide +kernel
theorem d_Mo_laysUnder_105 : decode prog_13_method_107_code 105 = .ok (.istore_n 2, 1) := by decide +kernel
theorem d_Mo_laysUnder_106 : decode prog_13_method_107_code 106 = .ok (.iload_n 2, 1) := by decide +kernel
theorem d_Mo_laysUnder_107 : decode prog_13_method_107_code 107 = .ok (.aload_n 0, 1) := by decide +kernel
theorem d_Mo_laysUnder_108 : decode prog_13_method_107_code 108 = .ok (.getfield 118, 3) := by decide +kernel
theorem d_Mo_laysUnder_111 : decode prog_13_method_107_code 111 = .ok (.iload_n 1, 1) := by decide +kernel
theorem d_Mo_laysUnder_112 : decode prog_13_method_107_code 112 = .ok (.iaload, 1) := by decide +kernel
theorem d_Mo_laysUnder_116 : decode prog_13_method_107_code 116 = .ok (.aload_n 0, 1) := by decide +kernel
theorem d_Mo_laysUnder_117 : decode prog_13_method_107_code 117 = .ok (.getfield 133, 3) := by decide +kernel
theorem d_Mo_laysUnder_120 : decode prog_13_method_107_code 120 = .ok (.iload_n 1, 1) := by decide +kernel
theorem d_Mo_laysUnder_121 : decode prog_13_method_107_code 121 = .ok (.aload_n 0, 1) := by decide +kernel
theorem d_Mo_laysUnder_122 : decode prog_13_method_107_code 122 = .ok (.getfield 133, 3) := by decide +kernel
theorem d_Mo_laysUnder_125 : decode prog_13_method_107_code 125 = .ok (.iload_n 1, 1) := by decide +kernel
theorem d_Mo_laysUnder_126 : decode prog_13_method_107_code 126 = .ok (.iaload, 1) := by decide +kernel
theorem d_Mo_laysUnder_127 : decode prog_13_method_107_code 127 = .ok (.aload_n 0, 1) := by decide +kernel
theorem d_Mo_laysUnder_128 : decode prog_13_method_107_code 128 = .ok (.iload_n 2, 1) := by decide +kernel
theorem d_Mo_laysUnder_129 : decode prog_13_method_107_code 129 = .ok (.aload_n 0, 1) := by decide +kernel
theorem d_Mo_laysUnder_130 : decode prog_13_method_107_code 130 = .ok (.getfield 112, 3) := by decide +kernel
theorem d_Mo_laysUnder_133 : decode prog_13_method_107_code 133 = .ok (.iload_n 1, 1) := by decide +kernel
theorem d_Mo_laysUnder_134 : decode prog_13_method_107_code 134 = .ok (.iaload, 1) := by decide +kernel
theorem d_Mo_laysUnder_135 : decode prog_13_method_107_code 135 = .ok (.invokevirtual 373, 3) := by decide +kernel
theorem d_Mo_laysUnder_138 : decode prog_13_method_107_code 138 = .ok (.ior, 1) := by decide +kernel
theorem d_Mo_laysUnder_139 : decode prog_13_method_107_code 139 = .ok (.iastore, 1) := by decide +kernel
theorem d_Mo_laysUnder_140 : decode prog_13_method_107_code 140 = .ok (.iinc 2 1, 3) := by decide +kernel
theorem d_Mo_laysUnder_143 : decode prog_13_method_107_code 143 = .ok (.goto (-37), 3) := by decide +kernel
theorem d_Mo_laysUnder_113 : decode prog_13_method_107_code 113 = .ok (.if_icmp .ge 33, 3) := by decide +kernel
theorem d_Mo_laysUnder_80 : decode prog_13_method_107_code 80 = .ok (.goto 66, 3) := by decide +kernel
theorem d_Mo_laysUnder_77 : decode prog_13_method_107_code 77 = .ok (.ifCond .ne 6, 3) := by decide +kernel
theorem d_Mo_laysUnder_68 : decode prog_13_method_107_code 68 = .ok (.ifCond .eq 78, 3) := by decide +kernel
theorem d_Mo_laysUnder_146 : decode prog_13_method_107_code 146 = .ok (.iinc 1 1, 3) := by decide +kernel
theorem d_Mo_laysUnder_149 : decode prog_13_method_107_code 149 = .ok (.goto (-106), 3) := by decide +kernel
theorem d_Mo_laysUnder_46 : decode prog_13_method_107_code 46 = .ok (.if_icmp .ge 106, 3) := by decide +kernel
def B_Mo_laysUnder_l2 (N : Nat) (rec : Int32 → Mem → Option (Mem)) (x1 : Int32) (σ : Mem) : Option (Mem) :=
  if 144 ≤ x1 then
    (some σ)
  else
    (grd (inb x1 144) <|
    letv (sI σ 88 (x1.toNatClampNeg) (1 &&& 1)) fun σ15 =>
    letv (x1 + 1) fun v16 =>
    rec v16 σ15)
def L_Mo_laysUnder_l2 (N : Nat) : Nat → Int32 → Mem → Option (Mem)
  | 0, _, _ => none
  | k + 1, x1, σ => B_Mo_laysUnder_l2 N (L_Mo_laysUnder_l2 N k) x1 σ
set_option maxHeartbeats 4000000 in
set_option maxRecDepth 20000 in
theorem cL_Mo_laysUnder_l2 (Z : ZX) {Y : YX} {Q : State → Prop} {N : Nat} {Good : Mem → Prop} (hE : ∀ (σe : Mem), Good σe → V (mkB Z) Y m_Mo_laysUnder 5 Q 0 0 nC σe 22 [(0, rf Z 65)] []) : ∀ (k : Nat) (x1 : Int32) (σ : Mem) (res : Mem), L_Mo_laysUnder_l2 N k x1 σ = some res → Good res → V (mkB Z) Y m_Mo_laysUnder 5 Q 0 0 nC σ 2 [(0, rf Z 65), (1, .int x1)] [] := by
  intro k
  induction k with
  | zero => intro x1 σ res h; cases h
  | succ k ih =>
    intro x1 σ res h hg
    replace h : B_Mo_laysUnder_l2 N (L_Mo_laysUnder_l2 N k) x1 σ = some res := h
    unfold B_Mo_laysUnder_l2 at h
    refine V.iload_n d_Mo_laysUnder_2 rfl 1 rfl ?_
    refine V.sipush (v := 144) d_Mo_laysUnder_3 (by decide) ?_
    refine V.icmp_ge (tgt := 22) d_Mo_laysUnder_6 (by decide) (fun hc6 => ?_) (fun hc6 => ?_)
    · replace h := ite_t hc6 h
      cases h
      exact V.pick [0] rfl (hE _ hg)
    · replace h := ite_f hc6 h
      refine V.aload_n d_Mo_laysUnder_9 rfl 0 rfl ?_
      refine V.getR (r := 88) ok_Mo fl_Mo_78 (by decide) (by decide) ly_65 rfl d_Mo_laysUnder_10 ?_
      refine V.iload_n d_Mo_laysUnder_13 rfl 1 rfl ?_
      refine V.iconst (v := 1) d_Mo_laysUnder_14 (by decide) ?_
      obtain ⟨gq, h⟩ := grd_e h
      obtain ⟨σ15, e_σ15, h⟩ := letv_e h
      refine V.wz (by decide) ly_88 (inb_e gq) rfl d_Mo_laysUnder_15 e_σ15 ?_
      obtain ⟨v16, e_v16, h⟩ := letv_e h
      refine V.iinc (v := v16) (lv' := [(1, .int v16), (0, rf Z 65)]) d_Mo_laysUnder_16 1 rfl (by rw [e_v16]; rfl) (by decide) rfl ?_
      refine V.goto (tgt := 2) d_Mo_laysUnder_19 (by decide) ?_
      exact V.pick [1, 0] rfl (ih _ _ _ h hg)
def B_Mo_laysUnder_l24 (N : Nat) (rec : Int32 → Mem → Option (Mem)) (x1 : Int32) (σ : Mem) : Option (Mem) :=
  if 24 ≤ x1 then
    (some σ)
  else
    (bnd1 (f_Mo_laysHour N σ x1) fun σ32 =>
    letv (x1 + 1) fun v35 =>
    rec v35 σ32)
def L_Mo_laysUnder_l24 (N : Nat) : Nat → Int32 → Mem → Option (Mem)
  | 0, _, _ => none
  | k + 1, x1, σ => B_Mo_laysUnder_l24 N (L_Mo_laysUnder_l24 N k) x1 σ
set_option maxHeartbeats 4000000 in
set_option maxRecDepth 20000 in
theorem cL_Mo_laysUnder_l24 (Z : ZX) {Y : YX} {Q : State → Prop} {N : Nat} {Good : Mem → Prop} (hE : ∀ (σe : Mem), Good σe → V (mkB Z) Y m_Mo_laysUnder 5 Q 0 0 nC σe 41 [(0, rf Z 65)] []) : ∀ (k : Nat) (x1 : Int32) (σ : Mem) (res : Mem), L_Mo_laysUnder_l24 N k x1 σ = some res → Good res → V (mkB Z) Y m_Mo_laysUnder 5 Q 0 0 nC σ 24 [(0, rf Z 65), (1, .int x1)] [] := by
  intro k
  induction k with
  | zero => intro x1 σ res h; cases h
  | succ k ih =>
    intro x1 σ res h hg
    replace h : B_Mo_laysUnder_l24 N (L_Mo_laysUnder_l24 N k) x1 σ = some res := h
    unfold B_Mo_laysUnder_l24 at h
    refine V.iload_n d_Mo_laysUnder_24 rfl 1 rfl ?_
    refine V.bipush (v := 24) d_Mo_laysUnder_25 (by decide) ?_
    refine V.icmp_ge (tgt := 41) d_Mo_laysUnder_27 (by decide) (fun hc27 => ?_) (fun hc27 => ?_)
    · replace h := ite_t hc27 h
      cases h
      exact V.pick [0] rfl (hE _ hg)
    · replace h := ite_f hc27 h
      refine V.aload_n d_Mo_laysUnder_30 rfl 0 rfl ?_
      refine V.iload_n d_Mo_laysUnder_31 rfl 1 rfl ?_
      obtain ⟨σ32, h1, h⟩ := bnd1_e h
      refine V.vN (as := [.int x1]) (st := []) (c_Mo_laysHour Z h1) k_Mo_laysHour lk_Mo_367 (by decide) rfl (by decide) ly_65 ok_Mo.1 rfl (Nat.le_of_ble_eq_true rfl) d_Mo_laysUnder_32 ?_
      obtain ⟨v35, e_v35, h⟩ := letv_e h
      refine V.iinc (v := v35) (lv' := [(1, .int v35), (0, rf Z 65)]) d_Mo_laysUnder_35 1 rfl (by rw [e_v35]; rfl) (by decide) rfl ?_
      refine V.goto (tgt := 24) d_Mo_laysUnder_38 (by decide) ?_
      exact V.pick [1, 0] rfl (ih _ _ _ h hg)
def B_Mo_laysUnder_l106 (N : Nat) (a1 : Int32) (rec : Int32 → Mem → Option (Mem)) (x2 : Int32) (σ : Mem) : Option (Mem) :=
  grd (inb a1 16) <|
  if (mI σ 101 (a1.toNatClampNeg)) ≤ x2 then
    (some σ)
  else
    (grd (inb a1 16) <|
    grd (inb a1 16) <|
    bnd1 (f_Mo_whoOn σ x2 (mI σ 99 (a1.toNatClampNeg))) fun r135 =>
    grd (inb a1 16) <|
    letv (sI σ 106 (a1.toNatClampNeg) ((mI σ 106 (a1.toNatClampNeg)) ||| r135)) fun σ139 =>
    letv (x2 + 1) fun v140 =>
    rec v140 σ139)
def L_Mo_laysUnder_l106 (N : Nat) (a1 : Int32) : Nat → Int32 → Mem → Option (Mem)
  | 0, _, _ => none
  | k + 1, x2, σ => B_Mo_laysUnder_l106 N a1 (L_Mo_laysUnder_l106 N a1 k) x2 σ
set_option maxHeartbeats 4000000 in
set_option maxRecDepth 20000 in
theorem cL_Mo_laysUnder_l106 (Z : ZX) {Y : YX} {Q : State → Prop} {N : Nat} {a1 : Int32} {Good : Mem → Prop} (hE : ∀ (σe : Mem), Good σe → V (mkB Z) Y m_Mo_laysUnder 5 Q 0 0 nC σe 146 [(0, rf Z 65), (1, .int a1)] []) : ∀ (k : Nat) (x2 : Int32) (σ : Mem) (res : Mem), L_Mo_laysUnder_l106 N a1 k x2 σ = some res → Good res → V (mkB Z) Y m_Mo_laysUnder 5 Q 0 0 nC σ 106 [(0, rf Z 65), (1, .int a1), (2, .int x2)] [] := by
  intro k
  induction k with
  | zero => intro x2 σ res h; cases h
  | succ k ih =>
    intro x2 σ res h hg
    replace h : B_Mo_laysUnder_l106 N a1 (L_Mo_laysUnder_l106 N a1 k) x2 σ = some res := h
    unfold B_Mo_laysUnder_l106 at h
    refine V.iload_n d_Mo_laysUnder_106 rfl 2 rfl ?_
    refine V.aload_n d_Mo_laysUnder_107 rfl 0 rfl ?_
    refine V.getR (r := 101) ok_Mo fl_Mo_118 (by decide) (by decide) ly_65 rfl d_Mo_laysUnder_108 ?_
    refine V.iload_n d_Mo_laysUnder_111 rfl 1 rfl ?_
    obtain ⟨gq, h⟩ := grd_e h
    refine V.ra (by decide) ly_101 (inb_e gq) rfl d_Mo_laysUnder_112 ?_
    refine V.icmp_ge (tgt := 146) d_Mo_laysUnder_113 (by decide) (fun hc113 => ?_) (fun hc113 => ?_)
    · replace h := ite_t hc113 h
      cases h
      exact V.pick [0, 1] rfl (hE _ hg)
    · replace h := ite_f hc113 h
      refine V.aload_n d_Mo_laysUnder_116 rfl 0 rfl ?_
      refine V.getR (r := 106) ok_Mo fl_Mo_133 (by decide) (by decide) ly_65 rfl d_Mo_laysUnder_117 ?_
      refine V.iload_n d_Mo_laysUnder_120 rfl 1 rfl ?_
      refine V.aload_n d_Mo_laysUnder_121 rfl 0 rfl ?_
      refine V.getR (r := 106) ok_Mo fl_Mo_133 (by decide) (by decide) ly_65 rfl d_Mo_laysUnder_122 ?_
      refine V.iload_n d_Mo_laysUnder_125 rfl 1 rfl ?_
      obtain ⟨gq, h⟩ := grd_e h
      refine V.ra (by decide) ly_106 (inb_e gq) rfl d_Mo_laysUnder_126 ?_
      refine V.aload_n d_Mo_laysUnder_127 rfl 0 rfl ?_
      refine V.iload_n d_Mo_laysUnder_128 rfl 2 rfl ?_
      refine V.aload_n d_Mo_laysUnder_129 rfl 0 rfl ?_
      refine V.getR (r := 99) ok_Mo fl_Mo_112 (by decide) (by decide) ly_65 rfl d_Mo_laysUnder_130 ?_
      refine V.iload_n d_Mo_laysUnder_133 rfl 1 rfl ?_
      obtain ⟨gq, h⟩ := grd_e h
      refine V.ra (by decide) ly_99 (inb_e gq) rfl d_Mo_laysUnder_134 ?_
      obtain ⟨r135, h1, h⟩ := bnd1_e h
      refine V.vI (as := [.int x2, .int (mI σ 99 (a1.toNatClampNeg))]) (st := [.int (mI σ 106 (a1.toNatClampNeg)), .int a1, rf Z 106]) (c_Mo_whoOn Z h1) k_Mo_whoOn lk_Mo_373 (by decide) rfl (by decide) ly_65 ok_Mo.1 rfl (Nat.le_of_ble_eq_true rfl) d_Mo_laysUnder_135 ?_
      refine V.ior d_Mo_laysUnder_138 ?_
      obtain ⟨gq, h⟩ := grd_e h
      obtain ⟨σ139, e_σ139, h⟩ := letv_e h
      refine V.wa (by decide) ly_106 (inb_e gq) rfl d_Mo_laysUnder_139 e_σ139 ?_
      obtain ⟨v140, e_v140, h⟩ := letv_e h
      refine V.iinc (v := v140) (lv' := [(2, .int v140), (0, rf Z 65), (1, .int a1)]) d_Mo_laysUnder_140 2 rfl (by rw [e_v140]; rfl) (by decide) rfl ?_
      refine V.goto (tgt := 106) d_Mo_laysUnder_143 (by decide) ?_
      exact V.pick [1, 2, 0] rfl (ih _ _ _ h hg)
def B_Mo_laysUnder_l43 (N : Nat) (rec : Int32 → Mem → Option (Mem)) (x1 : Int32) (σ : Mem) : Option (Mem) :=
  if 16 ≤ x1 then
    (some σ)
  else
    (grd (inb x1 16) <|
    letv (sI σ 106 (x1.toNatClampNeg) 0) fun σ55 =>
    grd (inb x1 16) <|
    letv (sI σ55 107 (x1.toNatClampNeg) (-1)) fun σ62 =>
    bnd1 (f_Mo_isWish σ62 x1) fun r65 =>
    bnd1 ((
      if r65 = 0 then
        (some σ62)
      else
        (grd (inb x1 16) <|
        if (mI σ62 103 (x1.toNatClampNeg)) = 0 then
          (some σ62)
        else
          (grd (inb x1 16) <|
          bnd1 (f_Mo_houseOn N σ62 (mI σ62 99 (x1.toNatClampNeg))) fun r95 =>
          grd (inb x1 16) <|
          letv (sI σ62 107 (x1.toNatClampNeg) r95) fun σ98 =>
          grd (inb x1 16) <|
          letv (mI σ98 100 (x1.toNatClampNeg)) fun v105 =>
          bnd1 (L_Mo_laysUnder_l106 N x1 N v105 σ98) fun σ106_ =>
          some σ106_))) : Option (Mem)) fun σ68_ =>
    letv (x1 + 1) fun v146 =>
    rec v146 σ68_)
def L_Mo_laysUnder_l43 (N : Nat) : Nat → Int32 → Mem → Option (Mem)
  | 0, _, _ => none
  | k + 1, x1, σ => B_Mo_laysUnder_l43 N (L_Mo_laysUnder_l43 N k) x1 σ
set_option maxHeartbeats 4000000 in
set_option maxRecDepth 20000 in
theorem cL_Mo_laysUnder_l43 (Z : ZX) {Y : YX} {post : Option Value → Mem → Prop} {N : Nat} {Good : Mem → Prop} (hR : ∀ (σr : Mem), Good σr → post none σr) : ∀ (k : Nat) (x1 : Int32) (σ : Mem) (res : Mem), L_Mo_laysUnder_l43 N k x1 σ = some res → Good res → V (mkB Z) Y m_Mo_laysUnder 5 (QP (mkB Z) Y nC 0 0 post) 0 0 nC σ 43 [(0, rf Z 65), (1, .int x1)] [] := by
  intro k
  induction k with
  | zero => intro x1 σ res h; cases h
  | succ k ih =>
    intro x1 σ res h hg
    replace h : B_Mo_laysUnder_l43 N (L_Mo_laysUnder_l43 N k) x1 σ = some res := h
    unfold B_Mo_laysUnder_l43 at h
    refine V.iload_n d_Mo_laysUnder_43 rfl 1 rfl ?_
    refine V.bipush (v := 16) d_Mo_laysUnder_44 (by decide) ?_
    refine V.icmp_ge (tgt := 152) d_Mo_laysUnder_46 (by decide) (fun hc46 => ?_) (fun hc46 => ?_)
    · replace h := ite_t hc46 h
      cases h
      exact V.vret rfl d_Mo_laysUnder_152 (hR _ hg)
    · replace h := ite_f hc46 h
      refine V.aload_n d_Mo_laysUnder_49 rfl 0 rfl ?_
      refine V.getR (r := 106) ok_Mo fl_Mo_133 (by decide) (by decide) ly_65 rfl d_Mo_laysUnder_50 ?_
      refine V.iload_n d_Mo_laysUnder_53 rfl 1 rfl ?_
      refine V.iconst (v := 0) d_Mo_laysUnder_54 (by decide) ?_
      obtain ⟨gq, h⟩ := grd_e h
      obtain ⟨σ55, e_σ55, h⟩ := letv_e h
      refine V.wa (by decide) ly_106 (inb_e gq) rfl d_Mo_laysUnder_55 e_σ55 ?_
      refine V.aload_n d_Mo_laysUnder_56 rfl 0 rfl ?_
      refine V.getR (r := 107) ok_Mo fl_Mo_136 (by decide) (by decide) ly_65 rfl d_Mo_laysUnder_57 ?_
      refine V.iload_n d_Mo_laysUnder_60 rfl 1 rfl ?_
      refine V.iconst (v := (-1)) d_Mo_laysUnder_61 (by decide) ?_
      obtain ⟨gq, h⟩ := grd_e h
      obtain ⟨σ62, e_σ62, h⟩ := letv_e h
      refine V.wa (by decide) ly_107 (inb_e gq) rfl d_Mo_laysUnder_62 e_σ62 ?_
      refine V.aload_n d_Mo_laysUnder_63 rfl 0 rfl ?_
      refine V.iload_n d_Mo_laysUnder_64 rfl 1 rfl ?_
      obtain ⟨r65, h1, h⟩ := bnd1_e h
      refine V.vI (as := [.int x1]) (st := []) (c_Mo_isWish Z h1) k_Mo_isWish lk_Mo_486 (by decide) rfl (by decide) ly_65 ok_Mo.1 rfl (Nat.le_of_ble_eq_true rfl) d_Mo_laysUnder_65 ?_
      obtain ⟨s68, h1, h⟩ := bnd1_e h
      have J68_146 : ∀ (σ68_ : Mem), s68 = σ68_ → V (mkB Z) Y m_Mo_laysUnder 5 (QP (mkB Z) Y nC 0 0 post) 0 0 nC σ68_ 146 [(0, rf Z 65), (1, .int x1)] [] := by
        intro σ68_ he
        rw [he] at h
        obtain ⟨v146, e_v146, h⟩ := letv_e h
        refine V.iinc (v := v146) (lv' := [(1, .int v146), (0, rf Z 65)]) d_Mo_laysUnder_146 1 rfl (by rw [e_v146]; rfl) (by decide) rfl ?_
        refine V.goto (tgt := 43) d_Mo_laysUnder_149 (by decide) ?_
        exact V.pick [1, 0] rfl (ih _ _ _ h hg)
      replace h := h1
      refine V.if_eq (tgt := 146) d_Mo_laysUnder_68 (by decide) (fun hc68 => ?_) (fun hc68 => ?_)
      · replace h := ite_t hc68 h
        exact V.pick [0, 1] rfl (J68_146 _ (Option.some.inj h).symm)
      · replace h := ite_f hc68 h
        refine V.aload_n d_Mo_laysUnder_71 rfl 0 rfl ?_
        refine V.getR (r := 103) ok_Mo fl_Mo_124 (by decide) (by decide) ly_65 rfl d_Mo_laysUnder_72 ?_
        refine V.iload_n d_Mo_laysUnder_75 rfl 1 rfl ?_
        obtain ⟨gq, h⟩ := grd_e h
        refine V.rz (by decide) ly_103 (inb_e gq) rfl d_Mo_laysUnder_76 ?_
        refine V.if_ne (tgt := 83) d_Mo_laysUnder_77 (by decide) (fun hc77 => ?_) (fun hc77 => ?_)
        · replace h := ite_f hc77 h
          refine V.aload_n d_Mo_laysUnder_83 rfl 0 rfl ?_
          refine V.getR (r := 107) ok_Mo fl_Mo_136 (by decide) (by decide) ly_65 rfl d_Mo_laysUnder_84 ?_
          refine V.iload_n d_Mo_laysUnder_87 rfl 1 rfl ?_
          refine V.aload_n d_Mo_laysUnder_88 rfl 0 rfl ?_
          refine V.aload_n d_Mo_laysUnder_89 rfl 0 rfl ?_
          refine V.getR (r := 99) ok_Mo fl_Mo_112 (by decide) (by decide) ly_65 rfl d_Mo_laysUnder_90 ?_
          refine V.iload_n d_Mo_laysUnder_93 rfl 1 rfl ?_
          obtain ⟨gq, h⟩ := grd_e h
          refine V.ra (by decide) ly_99 (inb_e gq) rfl d_Mo_laysUnder_94 ?_
          obtain ⟨r95, h1, h⟩ := bnd1_e h
          refine V.vI (as := [.int (mI σ62 99 (x1.toNatClampNeg))]) (st := [.int x1, rf Z 107]) (c_Mo_houseOn Z h1) k_Mo_houseOn lk_Mo_181 (by decide) rfl (by decide) ly_65 ok_Mo.1 rfl (Nat.le_of_ble_eq_true rfl) d_Mo_laysUnder_95 ?_
          obtain ⟨gq, h⟩ := grd_e h
          obtain ⟨σ98, e_σ98, h⟩ := letv_e h
          refine V.wa (by decide) ly_107 (inb_e gq) rfl d_Mo_laysUnder_98 e_σ98 ?_
          refine V.aload_n d_Mo_laysUnder_99 rfl 0 rfl ?_
          refine V.getR (r := 100) ok_Mo fl_Mo_115 (by decide) (by decide) ly_65 rfl d_Mo_laysUnder_100 ?_
          refine V.iload_n d_Mo_laysUnder_103 rfl 1 rfl ?_
          obtain ⟨gq, h⟩ := grd_e h
          refine V.ra (by decide) ly_100 (inb_e gq) rfl d_Mo_laysUnder_104 ?_
          obtain ⟨v105, e_v105, h⟩ := letv_e h
          refine V.topI e_v105 ?_
          refine V.istore_n (lv' := [(2, .int v105), (0, rf Z 65), (1, .int x1)]) d_Mo_laysUnder_105 rfl (by decide) rfl ?_
          obtain ⟨x106_, h1, h⟩ := bnd1_e h
          refine V.pick [1, 2, 0] rfl (cL_Mo_laysUnder_l106 Z (Good := fun z => x106_ = z) (fun σ106_ he => ?_) N _ _ _ h1 rfl)
          · rw [he] at h
            exact V.pick [0, 1] rfl (J68_146 _ (Option.some.inj h).symm)
        · replace h := ite_t hc77 h
          refine V.goto (tgt := 146) d_Mo_laysUnder_80 (by decide) ?_
          exact V.pick [0, 1] rfl (J68_146 _ (Option.some.inj h).symm)
def f_Mo_laysUnder (N : Nat) (σ : Mem) : Option (Mem) :=
  bnd1 (L_Mo_laysUnder_l2 N N 0 σ) fun σ2_ =>
  bnd1 (L_Mo_laysUnder_l24 N N 0 σ2_) fun σ24_ =>
  L_Mo_laysUnder_l43 N N 0 σ24_
set_option maxHeartbeats 4000000 in
set_option maxRecDepth 20000 in
theorem c_Mo_laysUnder (Z : ZX) {N : Nat} {σ : Mem} {σ' : Mem} (h : f_Mo_laysUnder N σ = some σ') : CN Z 5 m_Mo_laysUnder [rf Z 65] σ σ' := by
  refine Ct.of (by decide +kernel) (Nat.le_of_ble_eq_true rfl) (fun Y => ?_)
  show V (mkB Z) Y m_Mo_laysUnder 5 (QP (mkB Z) Y nC 0 0 (fun v t => v = none ∧ t = σ')) 0 0 nC σ 0 [(0, rf Z 65)] []
  unfold f_Mo_laysUnder at h
  refine V.iconst (v := 0) d_Mo_laysUnder_0 (by decide) ?_
  refine V.istore_n (lv' := [(1, .int 0), (0, rf Z 65)]) d_Mo_laysUnder_1 rfl (by decide) rfl ?_
  obtain ⟨x2_, h1, h⟩ := bnd1_e h
  refine V.pick [1, 0] rfl (cL_Mo_laysUnder_l2 Z (Good := fun z => x2_ = z) (fun σ2_ he => ?_) N _ _ _ h1 rfl)
  · rw [he] at h
    refine V.iconst (v := 0) d_Mo_laysUnder_22 (by decide) ?_
    refine V.istore_n (lv' := [(1, .int 0), (0, rf Z 65)]) d_Mo_laysUnder_23 rfl (by decide) rfl ?_
    obtain ⟨x24_, h1, h⟩ := bnd1_e h
    refine V.pick [1, 0] rfl (cL_Mo_laysUnder_l24 Z (Good := fun z => x24_ = z) (fun σ24_ he => ?_) N _ _ _ h1 rfl)
    · rw [he] at h
      refine V.iconst (v := 0) d_Mo_laysUnder_41 (by decide) ?_
      refine V.istore_n (lv' := [(1, .int 0), (0, rf Z 65)]) d_Mo_laysUnder_42 rfl (by decide) rfl ?_
      refine V.pick [1, 0] rfl (cL_Mo_laysUnder_l43 Z (Good := fun z => z = _) (fun r43m he => ?_) N _ _ _ h rfl)
      · cases he
        exact ⟨rfl, rfl⟩
abbrev m_Mo_doesWithout : MI := (⟨"ShadeTownModel", "doesWithout", "(I)Z"⟩, prog_13_method_108_code, 3, (Option.some Jvm.ClassFile.FieldType.boolean))
theorem d_Mo_doesWithout_0 : decode prog_13_method_108_code 0 = .ok (.iconst 0, 1) := by decide +kernel
theorem d_Mo_doesWithout_1 : decode prog_13_method_108_code 1 = .ok (.istore_n 2, 1) := by decide +kernel
theorem d_Mo_doesWithout_2 : decode prog_13_method_108_code 2 = .ok (.iload_n 2, 1) := by decide +kernel
theorem d_Mo_doesWithout_3 : decode prog_13_method_108_code 3 = .ok (.bipush 16, 2) := by decide +kernel
theorem d_Mo_doesWithout_8 : decode prog_13_method_108_code 8 = .ok (.aload_n 0, 1) := by decide +kernel
theorem d_Mo_doesWithout_9 : decode prog_13_method_108_code 9 = .ok (.getfield 136, 3) := by decide +kernel
theorem d_Mo_doesWithout_12 : decode prog_13_method_108_code 12 = .ok (.iload_n 2, 1) := by decide +kernel
theorem d_Mo_doesWithout_13 : decode prog_13_method_108_code 13 = .ok (.iaload, 1) := by decide +kernel
theorem d_Mo_doesWithout_14 : decode prog_13_method_108_code 14 = .ok (.iconst (-1), 1) := by decide +kernel
theorem d_Mo_doesWithout_18 : decode prog_13_method_108_code 18 = .ok (.iload_n 1, 1) := by decide +kernel
theorem d_Mo_doesWithout_19 : decode prog_13_method_108_code 19 = .ok (.aload_n 0, 1) := by decide +kernel
theorem d_Mo_doesWithout_20 : decode prog_13_method_108_code 20 = .ok (.getfield 136, 3) := by decide +kernel
theorem d_Mo_doesWithout_23 : decode prog_13_method_108_code 23 = .ok (.iload_n 2, 1) := by decide +kernel
theorem d_Mo_doesWithout_24 : decode prog_13_method_108_code 24 = .ok (.iaload, 1) := by decide +kernel
theorem d_Mo_doesWithout_25 : decode prog_13_method_108_code 25 = .ok (.invokestatic 177, 3) := by decide +kernel
theorem d_Mo_doesWithout_31 : decode prog_13_method_108_code 31 = .ok (.goto 18, 3) := by decide +kernel
theorem d_Mo_doesWithout_28 : decode prog_13_method_108_code 28 = .ok (.ifCond .ne 6, 3) := by decide +kernel
theorem d_Mo_doesWithout_15 : decode prog_13_method_108_code 15 = .ok (.if_icmp .eq 19, 3) := by decide +kernel
theorem d_Mo_doesWithout_5 : decode prog_13_method_108_code 5 = .ok (.if_icmp .ge 50, 3) := by decide +kernel
theorem d_Mo_doesWithout_55 : decode prog_13_method_108_code 55 = .ok (.iconst 1, 1) := by decide +kernel
theorem d_Mo_doesWithout_56 : decode prog_13_method_108_code 56 = .ok (.ireturn, 1) := by decide +kernel
theorem d_Mo_doesWithout_34 : decode prog_13_method_108_code 34 = .ok (.aload_n 0, 1) := by decide +kernel
theorem d_Mo_doesWithout_35 : decode prog_13_method_108_code 35 = .ok (.getfield 133, 3) := by decide +kernel
theorem d_Mo_doesWithout_38 : decode prog_13_method_108_code 38 = .ok (.iload_n 2, 1) := by decide +kernel
theorem d_Mo_doesWithout_39 : decode prog_13_method_108_code 39 = .ok (.iaload, 1) := by decide +kernel
theorem d_Mo_doesWithout_40 : decode prog_13_method_108_code 40 = .ok (.iload_n 1, 1) := by decide +kernel
theorem d_Mo_doesWithout_41 : decode prog_13_method_108_code 41 = .ok (.iconst (-1), 1) := by decide +kernel
theorem d_Mo_doesWithout_42 : decode prog_13_method_108_code 42 = .ok (.ixor, 1) := by decide +kernel
theorem d_Mo_doesWithout_43 : decode prog_13_method_108_code 43 = .ok (.iand, 1) := by decide +kernel
theorem d_Mo_doesWithout_49 : decode prog_13_method_108_code 49 = .ok (.iinc 2 1, 3) := by decide +kernel
theorem d_Mo_doesWithout_52 : decode prog_13_method_108_code 52 = .ok (.goto (-50), 3) := by decide +kernel
theorem d_Mo_doesWithout_47 : decode prog_13_method_108_code 47 = .ok (.iconst 0, 1) := by decide +kernel
theorem d_Mo_doesWithout_48 : decode prog_13_method_108_code 48 = .ok (.ireturn, 1) := by decide +kernel
theorem d_Mo_doesWithout_44 : decode prog_13_method_108_code 44 = .ok (.ifCond .eq 5, 3) := by decide +kernel
def B_Mo_doesWithout_l2 (N : Nat) (a1 : Int32) (σ : Mem) (rec : Int32 → Option (Int32)) (x2 : Int32) : Option (Int32) :=
  bnd1 ((
    if 16 ≤ x2 then
      (some 0)
    else
      (grd (inb x2 16) <|
      if (mI σ 107 (x2.toNatClampNeg)) = (-1) then
        (some 1)
      else
        (grd (inb x2 16) <|
        bnd1 (f_Mo_has a1 (mI σ 107 (x2.toNatClampNeg))) fun r25 =>
        if r25 = 0 then
          (some 2)
        else
          (some 1)))) : Option (Nat)) fun t5b =>
  if t5b = 0 then
    (some 1)
  else
  if t5b = 1 then
    (grd (inb x2 16) <|
    if (mI σ 106 (x2.toNatClampNeg)) &&& (a1 ^^^ (-1)) = 0 then
      (letv (x2 + 1) fun v49 =>
      rec v49)
    else
      (some 0))
  else
  (letv (x2 + 1) fun v49 =>
  rec v49)
def L_Mo_doesWithout_l2 (N : Nat) (a1 : Int32) (σ : Mem) : Nat → Int32 → Option (Int32)
  | 0, _ => none
  | k + 1, x2 => B_Mo_doesWithout_l2 N a1 σ (L_Mo_doesWithout_l2 N a1 σ k) x2
set_option maxHeartbeats 4000000 in
set_option maxRecDepth 20000 in
theorem cL_Mo_doesWithout_l2 (Z : ZX) {Y : YX} {post : Option Value → Mem → Prop} {N : Nat} {a1 : Int32} {σ : Mem} {Good : Int32 → Prop} (hR : ∀ (v : Int32), Good v → post (some (.int v)) σ) : ∀ (k : Nat) (x2 : Int32) (res : Int32), L_Mo_doesWithout_l2 N a1 σ k x2 = some res → Good res → V (mkB Z) Y m_Mo_doesWithout 1 (QP (mkB Z) Y nC 0 0 post) 0 0 nC σ 2 [(0, rf Z 65), (1, .int a1), (2, .int x2)] [] := by
  intro k
  induction k with
  | zero => intro x2 res h; cases h
  | succ k ih =>
    intro x2 res h hg
    replace h : B_Mo_doesWithout_l2 N a1 σ (L_Mo_doesWithout_l2 N a1 σ k) x2 = some res := h
    unfold B_Mo_doesWithout_l2 at h
    refine V.iload_n d_Mo_doesWithout_2 rfl 2 rfl ?_
    refine V.bipush (v := 16) d_Mo_doesWithout_3 (by decide) ?_
    obtain ⟨s5b, h1, h⟩ := bnd1_e h
    have J5b_55 : s5b = 0 → V (mkB Z) Y m_Mo_doesWithout 1 (QP (mkB Z) Y nC 0 0 post) 0 0 nC σ 55 [] [] := by
      intro he
      rw [he] at h
      replace h := ite_t rfl h
      refine V.iconst (v := 1) d_Mo_doesWithout_55 (by decide) ?_
      cases h
      exact V.zret rfl rfl d_Mo_doesWithout_56 (hR _ hg)
    have J5b_34 : s5b = 1 → V (mkB Z) Y m_Mo_doesWithout 1 (QP (mkB Z) Y nC 0 0 post) 0 0 nC σ 34 [(0, rf Z 65), (1, .int a1), (2, .int x2)] [] := by
      intro he
      rw [he] at h
      replace h := ite_f (by decide) h
      replace h := ite_t rfl h
      refine V.aload_n d_Mo_doesWithout_34 rfl 0 rfl ?_
      refine V.getR (r := 106) ok_Mo fl_Mo_133 (by decide) (by decide) ly_65 rfl d_Mo_doesWithout_35 ?_
      refine V.iload_n d_Mo_doesWithout_38 rfl 2 rfl ?_
      obtain ⟨gq, h⟩ := grd_e h
      refine V.ra (by decide) ly_106 (inb_e gq) rfl d_Mo_doesWithout_39 ?_
      refine V.iload_n d_Mo_doesWithout_40 rfl 1 rfl ?_
      refine V.iconst (v := (-1)) d_Mo_doesWithout_41 (by decide) ?_
      refine V.ixor d_Mo_doesWithout_42 ?_
      refine V.iand d_Mo_doesWithout_43 ?_
      refine V.if_eq (tgt := 49) d_Mo_doesWithout_44 (by decide) (fun hc44 => ?_) (fun hc44 => ?_)
      · replace h := ite_t hc44 h
        obtain ⟨v49, e_v49, h⟩ := letv_e h
        refine V.iinc (v := v49) (lv' := [(2, .int v49), (0, rf Z 65), (1, .int a1)]) d_Mo_doesWithout_49 2 rfl (by rw [e_v49]; rfl) (by decide) rfl ?_
        refine V.goto (tgt := 2) d_Mo_doesWithout_52 (by decide) ?_
        exact V.pick [1, 2, 0] rfl (ih _ _ h hg)
      · replace h := ite_f hc44 h
        refine V.iconst (v := 0) d_Mo_doesWithout_47 (by decide) ?_
        cases h
        exact V.zret rfl rfl d_Mo_doesWithout_48 (hR _ hg)
    have J5b_49 : s5b = 2 → V (mkB Z) Y m_Mo_doesWithout 1 (QP (mkB Z) Y nC 0 0 post) 0 0 nC σ 49 [(0, rf Z 65), (1, .int a1), (2, .int x2)] [] := by
      intro he
      rw [he] at h
      replace h := ite_f (by decide) h
      replace h := ite_f (by decide) h
      obtain ⟨v49, e_v49, h⟩ := letv_e h
      refine V.iinc (v := v49) (lv' := [(2, .int v49), (0, rf Z 65), (1, .int a1)]) d_Mo_doesWithout_49 2 rfl (by rw [e_v49]; rfl) (by decide) rfl ?_
      refine V.goto (tgt := 2) d_Mo_doesWithout_52 (by decide) ?_
      exact V.pick [1, 2, 0] rfl (ih _ _ h hg)
    replace h := h1
    refine V.icmp_ge (tgt := 55) d_Mo_doesWithout_5 (by decide) (fun hc5 => ?_) (fun hc5 => ?_)
    · replace h := ite_t hc5 h
      exact V.pick [] rfl (J5b_55 (Option.some.inj h).symm)
    · replace h := ite_f hc5 h
      refine V.aload_n d_Mo_doesWithout_8 rfl 0 rfl ?_
      refine V.getR (r := 107) ok_Mo fl_Mo_136 (by decide) (by decide) ly_65 rfl d_Mo_doesWithout_9 ?_
      refine V.iload_n d_Mo_doesWithout_12 rfl 2 rfl ?_
      obtain ⟨gq, h⟩ := grd_e h
      refine V.ra (by decide) ly_107 (inb_e gq) rfl d_Mo_doesWithout_13 ?_
      refine V.iconst (v := (-1)) d_Mo_doesWithout_14 (by decide) ?_
      refine V.icmp_eq (tgt := 34) d_Mo_doesWithout_15 (by decide) (fun hc15 => ?_) (fun hc15 => ?_)
      · replace h := ite_t hc15 h
        exact V.pick [0, 1, 2] rfl (J5b_34 (Option.some.inj h).symm)
      · replace h := ite_f hc15 h
        refine V.iload_n d_Mo_doesWithout_18 rfl 1 rfl ?_
        refine V.aload_n d_Mo_doesWithout_19 rfl 0 rfl ?_
        refine V.getR (r := 107) ok_Mo fl_Mo_136 (by decide) (by decide) ly_65 rfl d_Mo_doesWithout_20 ?_
        refine V.iload_n d_Mo_doesWithout_23 rfl 2 rfl ?_
        obtain ⟨gq, h⟩ := grd_e h
        refine V.ra (by decide) ly_107 (inb_e gq) rfl d_Mo_doesWithout_24 ?_
        obtain ⟨r25, h1, h⟩ := bnd1_e h
        refine V.sI (as := [.int a1, .int (mI σ 107 (x2.toNatClampNeg))]) (st := []) (c_Mo_has Z h1) k_Mo_has lk_Mo_177 (by decide) rfl rfl (Nat.le_of_ble_eq_true rfl) d_Mo_doesWithout_25 ?_
        refine V.if_ne (tgt := 34) d_Mo_doesWithout_28 (by decide) (fun hc28 => ?_) (fun hc28 => ?_)
        · replace h := ite_f hc28 h
          exact V.pick [0, 1, 2] rfl (J5b_34 (Option.some.inj h).symm)
        · replace h := ite_t hc28 h
          refine V.goto (tgt := 49) d_Mo_doesWithout_31 (by decide) ?_
          exact V.pick [0, 1, 2] rfl (J5b_49 (Option.some.inj h).symm)
def f_Mo_doesWithout (N : Nat) (σ : Mem) (a1 : Int32) : Option (Int32) :=
  L_Mo_doesWithout_l2 N a1 σ N 0
set_option maxHeartbeats 4000000 in
set_option maxRecDepth 20000 in
theorem c_Mo_doesWithout (Z : ZX) {N : Nat} {σ : Mem} {a1 : Int32} {r : Int32} (h : f_Mo_doesWithout N σ a1 = some r) : CI Z 1 m_Mo_doesWithout [rf Z 65, .int a1] σ r σ := by
  refine Ct.of (by decide +kernel) (Nat.le_of_ble_eq_true rfl) (fun Y => ?_)
  show V (mkB Z) Y m_Mo_doesWithout 1 (QP (mkB Z) Y nC 0 0 (fun v t => v = some (.int r) ∧ t = σ)) 0 0 nC σ 0 [(0, rf Z 65), (1, .int a1)] []
  unfold f_Mo_doesWithout at h
  refine V.iconst (v := 0) d_Mo_doesWithout_0 (by decide) ?_
  refine V.istore_n (lv' := [(2, .int 0), (0, rf Z 65), (1, .int a1)]) d_Mo_doesWithout_1 rfl (by decide) rfl ?_
  refine V.pick [1, 2, 0] rfl (cL_Mo_doesWithout_l2 Z (Good := fun z => z = _) (fun r2v he => ?_) N _ _ h rfl)
  · cases he
    exact ⟨rfl, rfl⟩
abbrev m_Mo_takenDown : MI := (⟨"ShadeTownModel", "takenDown", "()I"⟩, prog_13_method_109_code, 3, (Option.some Jvm.ClassFile.FieldType.int))
theorem d_Mo_takenDown_0 : decode prog_13_method_109_code 0 = .ok (.aload_n 0, 1) := by decide +kernel
theorem d_Mo_takenDown_1 : decode prog_13_method_109_code 1 = .ok (.invokevirtual 503, 3) := by decide +kernel
theorem k_Mo_laysUnder : MOk m_Mo_laysUnder 0 ∧ IOk m_Mo_laysUnder := ⟨⟨atG 1987 (by decide +kernel) rfl, atG 122 (by decide +kernel) rfl, ⟨by decide, by decide⟩, by decide +kernel, by decide⟩, atG 1986 (by decide +kernel) rfl, atG 103 (by decide +kernel) rfl⟩
theorem lk_Mo_503 : Cond.methodLink "ShadeTownModel" 503 ⟨"ShadeTownModel", "laysUnder", "()V"⟩ ∈ tblG := atG 1984 (by decide +kernel) rfl
theorem d_Mo_takenDown_4 : decode prog_13_method_109_code 4 = .ok (.iconst (-1), 1) := by decide +kernel
theorem d_Mo_takenDown_5 : decode prog_13_method_109_code 5 = .ok (.istore_n 1, 1) := by decide +kernel
theorem d_Mo_takenDown_6 : decode prog_13_method_109_code 6 = .ok (.iconst 0, 1) := by decide +kernel
theorem d_Mo_takenDown_7 : decode prog_13_method_109_code 7 = .ok (.istore_n 2, 1) := by decide +kernel
theorem d_Mo_takenDown_8 : decode prog_13_method_109_code 8 = .ok (.iload_n 2, 1) := by decide +kernel
theorem d_Mo_takenDown_9 : decode prog_13_method_109_code 9 = .ok (.iconst 1, 1) := by decide +kernel
theorem d_Mo_takenDown_10 : decode prog_13_method_109_code 10 = .ok (.aload_n 0, 1) := by decide +kernel
theorem d_Mo_takenDown_11 : decode prog_13_method_109_code 11 = .ok (.getfield 167, 3) := by decide +kernel
theorem d_Mo_takenDown_14 : decode prog_13_method_109_code 14 = .ok (.ishl, 1) := by decide +kernel
theorem d_Mo_takenDown_61 : decode prog_13_method_109_code 61 = .ok (.iload_n 1, 1) := by decide +kernel
theorem d_Mo_takenDown_62 : decode prog_13_method_109_code 62 = .ok (.ireturn, 1) := by decide +kernel
theorem d_Mo_takenDown_18 : decode prog_13_method_109_code 18 = .ok (.iload_n 2, 1) := by decide +kernel
theorem d_Mo_takenDown_19 : decode prog_13_method_109_code 19 = .ok (.aload_n 0, 1) := by decide +kernel
theorem d_Mo_takenDown_20 : decode prog_13_method_109_code 20 = .ok (.getfield 174, 3) := by decide +kernel
theorem d_Mo_takenDown_23 : decode prog_13_method_109_code 23 = .ok (.iconst (-1), 1) := by decide +kernel
theorem d_Mo_takenDown_24 : decode prog_13_method_109_code 24 = .ok (.ixor, 1) := by decide +kernel
theorem d_Mo_takenDown_25 : decode prog_13_method_109_code 25 = .ok (.iand, 1) := by decide +kernel
theorem d_Mo_takenDown_29 : decode prog_13_method_109_code 29 = .ok (.iload_n 1, 1) := by decide +kernel
theorem d_Mo_takenDown_30 : decode prog_13_method_109_code 30 = .ok (.iconst (-1), 1) := by decide +kernel
theorem d_Mo_takenDown_34 : decode prog_13_method_109_code 34 = .ok (.iload_n 2, 1) := by decide +kernel
theorem d_Mo_takenDown_35 : decode prog_13_method_109_code 35 = .ok (.invokestatic 376, 3) := by decide +kernel
theorem d_Mo_takenDown_38 : decode prog_13_method_109_code 38 = .ok (.iload_n 1, 1) := by decide +kernel
theorem d_Mo_takenDown_39 : decode prog_13_method_109_code 39 = .ok (.invokestatic 376, 3) := by decide +kernel
theorem d_Mo_takenDown_42 : decode prog_13_method_109_code 42 = .ok (.if_icmp .ge 13, 3) := by decide +kernel
theorem d_Mo_takenDown_31 : decode prog_13_method_109_code 31 = .ok (.if_icmp .eq 14, 3) := by decide +kernel
theorem d_Mo_takenDown_26 : decode prog_13_method_109_code 26 = .ok (.ifCond .ne 29, 3) := by decide +kernel
theorem d_Mo_takenDown_45 : decode prog_13_method_109_code 45 = .ok (.aload_n 0, 1) := by decide +kernel
theorem d_Mo_takenDown_46 : decode prog_13_method_109_code 46 = .ok (.iload_n 2, 1) := by decide +kernel
theorem d_Mo_takenDown_47 : decode prog_13_method_109_code 47 = .ok (.invokevirtual 506, 3) := by decide +kernel
theorem k_Mo_doesWithout : MOk m_Mo_doesWithout 1 ∧ IOk m_Mo_doesWithout := ⟨⟨atG 1991 (by decide +kernel) rfl, atG 122 (by decide +kernel) rfl, ⟨by decide, by decide⟩, by decide +kernel, by decide⟩, atG 1990 (by decide +kernel) rfl, atG 104 (by decide +kernel) rfl⟩
theorem lk_Mo_506 : Cond.methodLink "ShadeTownModel" 506 ⟨"ShadeTownModel", "doesWithout", "(I)Z"⟩ ∈ tblG := atG 1988 (by decide +kernel) rfl
theorem d_Mo_takenDown_53 : decode prog_13_method_109_code 53 = .ok (.iload_n 2, 1) := by decide +kernel
theorem d_Mo_takenDown_54 : decode prog_13_method_109_code 54 = .ok (.istore_n 1, 1) := by decide +kernel
theorem d_Mo_takenDown_50 : decode prog_13_method_109_code 50 = .ok (.ifCond .eq 5, 3) := by decide +kernel
theorem d_Mo_takenDown_55 : decode prog_13_method_109_code 55 = .ok (.iinc 2 1, 3) := by decide +kernel
theorem d_Mo_takenDown_58 : decode prog_13_method_109_code 58 = .ok (.goto (-50), 3) := by decide +kernel
theorem d_Mo_takenDown_15 : decode prog_13_method_109_code 15 = .ok (.if_icmp .ge 46, 3) := by decide +kernel
def B_Mo_takenDown_l8 (N : Nat) (rec : Int32 → Int32 → Mem → Option (Int32 × Mem)) (x1 : Int32) (x2 : Int32) (σ : Mem) : Option (Int32 × Mem) :=
  if (1 <<< ((mI σ 65 0) &&& 31)) ≤ x2 then
    (some (x1, σ))
  else
    (bnd1 ((
      bnd1 ((
        if (x2 &&& ((mI σ 65 1) ^^^ (-1))) = 0 then
          (if x1 = (-1) then
            (some 1)
          else
            (bnd1 (f_Mo_bits N x2) fun r35 =>
            bnd1 (f_Mo_bits N x1) fun r39 =>
            if r39 ≤ r35 then
              (some 0)
            else
              (some 1)))
        else
          (some 0)) : Option (Nat)) fun t26b =>
      if t26b = 0 then
        (some x1)
      else
      (bnd1 (f_Mo_doesWithout N σ x2) fun r47 =>
      if r47 = 0 then
        (some x1)
      else
        (some x2))) : Option (Int32)) fun y26_1 =>
    letv (x2 + 1) fun v55 =>
    rec y26_1 v55 σ)
def L_Mo_takenDown_l8 (N : Nat) : Nat → Int32 → Int32 → Mem → Option (Int32 × Mem)
  | 0, _, _, _ => none
  | k + 1, x1, x2, σ => B_Mo_takenDown_l8 N (L_Mo_takenDown_l8 N k) x1 x2 σ
set_option maxHeartbeats 4000000 in
set_option maxRecDepth 20000 in
theorem cL_Mo_takenDown_l8 (Z : ZX) {Y : YX} {post : Option Value → Mem → Prop} {N : Nat} {Good : Int32 × Mem → Prop} (hR : ∀ (v : Int32) (σr : Mem), Good (v, σr) → post (some (.int v)) σr) : ∀ (k : Nat) (x1 : Int32) (x2 : Int32) (σ : Mem) (res : Int32 × Mem), L_Mo_takenDown_l8 N k x1 x2 σ = some res → Good res → V (mkB Z) Y m_Mo_takenDown 6 (QP (mkB Z) Y nC 0 0 post) 0 0 nC σ 8 [(0, rf Z 65), (1, .int x1), (2, .int x2)] [] := by
  intro k
  induction k with
  | zero => intro x1 x2 σ res h; cases h
  | succ k ih =>
    intro x1 x2 σ res h hg
    replace h : B_Mo_takenDown_l8 N (L_Mo_takenDown_l8 N k) x1 x2 σ = some res := h
    unfold B_Mo_takenDown_l8 at h
    refine V.iload_n d_Mo_takenDown_8 rfl 2 rfl ?_
    refine V.iconst (v := 1) d_Mo_takenDown_9 (by decide) ?_
    refine V.aload_n d_Mo_takenDown_10 rfl 0 rfl ?_
    refine V.getI ok_Mo fl_Mo_167 (by decide) (by decide) ly_65 rfl d_Mo_takenDown_11 ?_
    refine V.ishl d_Mo_takenDown_14 ?_
    refine V.icmp_ge (tgt := 61) d_Mo_takenDown_15 (by decide) (fun hc15 => ?_) (fun hc15 => ?_)
    · replace h := ite_t hc15 h
      refine V.iload_n d_Mo_takenDown_61 rfl 1 rfl ?_
      cases h
      exact V.iret rfl d_Mo_takenDown_62 (hR _ _ hg)
    · replace h := ite_f hc15 h
      refine V.iload_n d_Mo_takenDown_18 rfl 2 rfl ?_
      refine V.aload_n d_Mo_takenDown_19 rfl 0 rfl ?_
      refine V.getI ok_Mo fl_Mo_174 (by decide) (by decide) ly_65 rfl d_Mo_takenDown_20 ?_
      refine V.iconst (v := (-1)) d_Mo_takenDown_23 (by decide) ?_
      refine V.ixor d_Mo_takenDown_24 ?_
      refine V.iand d_Mo_takenDown_25 ?_
      obtain ⟨s26, h1, h⟩ := bnd1_e h
      have J26_55 : ∀ (y26_1 : Int32), s26 = y26_1 → V (mkB Z) Y m_Mo_takenDown 6 (QP (mkB Z) Y nC 0 0 post) 0 0 nC σ 55 [(0, rf Z 65), (1, .int y26_1), (2, .int x2)] [] := by
        intro y26_1 he
        rw [he] at h
        obtain ⟨v55, e_v55, h⟩ := letv_e h
        refine V.iinc (v := v55) (lv' := [(2, .int v55), (0, rf Z 65), (1, .int y26_1)]) d_Mo_takenDown_55 2 rfl (by rw [e_v55]; rfl) (by decide) rfl ?_
        refine V.goto (tgt := 8) d_Mo_takenDown_58 (by decide) ?_
        exact V.pick [1, 2, 0] rfl (ih _ _ _ _ h hg)
      replace h := h1
      obtain ⟨s26b, h1, h⟩ := bnd1_e h
      have J26b_55 : s26b = 0 → V (mkB Z) Y m_Mo_takenDown 6 (QP (mkB Z) Y nC 0 0 post) 0 0 nC σ 55 [(0, rf Z 65), (1, .int x1), (2, .int x2)] [] := by
        intro he
        rw [he] at h
        replace h := ite_t rfl h
        exact V.pick [0, 1, 2] rfl (J26_55 _ (Option.some.inj h).symm)
      have J26b_45 : s26b = 1 → V (mkB Z) Y m_Mo_takenDown 6 (QP (mkB Z) Y nC 0 0 post) 0 0 nC σ 45 [(0, rf Z 65), (1, .int x1), (2, .int x2)] [] := by
        intro he
        rw [he] at h
        replace h := ite_f (by decide) h
        refine V.aload_n d_Mo_takenDown_45 rfl 0 rfl ?_
        refine V.iload_n d_Mo_takenDown_46 rfl 2 rfl ?_
        obtain ⟨r47, h1, h⟩ := bnd1_e h
        refine V.vI (as := [.int x2]) (st := []) (c_Mo_doesWithout Z h1) k_Mo_doesWithout lk_Mo_506 (by decide) rfl (by decide) ly_65 ok_Mo.1 rfl (Nat.le_of_ble_eq_true rfl) d_Mo_takenDown_47 ?_
        refine V.if_eq (tgt := 55) d_Mo_takenDown_50 (by decide) (fun hc50 => ?_) (fun hc50 => ?_)
        · replace h := ite_t hc50 h
          exact V.pick [0, 1, 2] rfl (J26_55 _ (Option.some.inj h).symm)
        · replace h := ite_f hc50 h
          refine V.iload_n d_Mo_takenDown_53 rfl 2 rfl ?_
          refine V.istore_n (lv' := [(1, .int x2), (0, rf Z 65), (2, .int x2)]) d_Mo_takenDown_54 rfl (by decide) rfl ?_
          exact V.pick [1, 0, 2] rfl (J26_55 _ (Option.some.inj h).symm)
      replace h := h1
      refine V.if_ne (tgt := 55) d_Mo_takenDown_26 (by decide) (fun hc26 => ?_) (fun hc26 => ?_)
      · replace h := ite_f hc26 h
        exact V.pick [0, 1, 2] rfl (J26b_55 (Option.some.inj h).symm)
      · replace h := ite_t hc26 h
        refine V.iload_n d_Mo_takenDown_29 rfl 1 rfl ?_
        refine V.iconst (v := (-1)) d_Mo_takenDown_30 (by decide) ?_
        refine V.icmp_eq (tgt := 45) d_Mo_takenDown_31 (by decide) (fun hc31 => ?_) (fun hc31 => ?_)
        · replace h := ite_t hc31 h
          exact V.pick [0, 1, 2] rfl (J26b_45 (Option.some.inj h).symm)
        · replace h := ite_f hc31 h
          refine V.iload_n d_Mo_takenDown_34 rfl 2 rfl ?_
          obtain ⟨r35, h1, h⟩ := bnd1_e h
          refine V.sI (as := [.int x2]) (st := []) (c_Mo_bits Z h1) k_Mo_bits lk_Mo_376 (by decide) rfl rfl (Nat.le_of_ble_eq_true rfl) d_Mo_takenDown_35 ?_
          refine V.iload_n d_Mo_takenDown_38 rfl 1 rfl ?_
          obtain ⟨r39, h1, h⟩ := bnd1_e h
          refine V.sI (as := [.int x1]) (st := [.int r35]) (c_Mo_bits Z h1) k_Mo_bits lk_Mo_376 (by decide) rfl rfl (Nat.le_of_ble_eq_true rfl) d_Mo_takenDown_39 ?_
          refine V.icmp_ge (tgt := 55) d_Mo_takenDown_42 (by decide) (fun hc42 => ?_) (fun hc42 => ?_)
          · replace h := ite_t hc42 h
            exact V.pick [0, 1, 2] rfl (J26b_55 (Option.some.inj h).symm)
          · replace h := ite_f hc42 h
            exact V.pick [0, 1, 2] rfl (J26b_45 (Option.some.inj h).symm)
def f_Mo_takenDown (N : Nat) (σ : Mem) : Option (Int32 × Mem) :=
  bnd1 (f_Mo_laysUnder N σ) fun σ1 =>
  L_Mo_takenDown_l8 N N (-1) 0 σ1
set_option maxHeartbeats 4000000 in
set_option maxRecDepth 20000 in
theorem c_Mo_takenDown (Z : ZX) {N : Nat} {σ : Mem} {r : Int32} {σ' : Mem} (h : f_Mo_takenDown N σ = some (r, σ')) : CI Z 6 m_Mo_takenDown [rf Z 65] σ r σ' := by
  refine Ct.of (by decide +kernel) (Nat.le_of_ble_eq_true rfl) (fun Y => ?_)
  show V (mkB Z) Y m_Mo_takenDown 6 (QP (mkB Z) Y nC 0 0 (fun v t => v = some (.int r) ∧ t = σ')) 0 0 nC σ 0 [(0, rf Z 65)] []
  unfold f_Mo_takenDown at h
  refine V.aload_n d_Mo_takenDown_0 rfl 0 rfl ?_
  obtain ⟨σ1, h1, h⟩ := bnd1_e h
  refine V.vN (as := []) (st := []) (c_Mo_laysUnder Z h1) k_Mo_laysUnder lk_Mo_503 (by decide) rfl (by decide) ly_65 ok_Mo.1 rfl (Nat.le_of_ble_eq_true rfl) d_Mo_takenDown_1 ?_
  refine V.iconst (v := (-1)) d_Mo_takenDown_4 (by decide) ?_
  refine V.istore_n (lv' := [(1, .int (-1)), (0, rf Z 65)]) d_Mo_takenDown_5 rfl (by decide) rfl ?_
  refine V.iconst (v := 0) d_Mo_takenDown_6 (by decide) ?_
  refine V.istore_n (lv' := [(2, .int 0), (1, .int (-1)), (0, rf Z 65)]) d_Mo_takenDown_7 rfl (by decide) rfl ?_
  refine V.pick [2, 1, 0] rfl (cL_Mo_takenDown_l8 Z (Good := fun z => z = _) (fun r8v r8m he => ?_) N _ _ _ _ h rfl)
  · cases he
    exact ⟨rfl, rfl⟩
abbrev m_Mo_fewestOf : MI := (⟨"ShadeTownModel", "fewestOf", "(I)I"⟩, prog_13_method_110_code, 4, (Option.some Jvm.ClassFile.FieldType.int))
theorem d_Mo_fewestOf_0 : decode prog_13_method_110_code 0 = .ok (.iconst (-1), 1) := by decide +kernel
theorem d_Mo_fewestOf_1 : decode prog_13_method_110_code 1 = .ok (.istore_n 2, 1) := by decide +kernel
theorem d_Mo_fewestOf_2 : decode prog_13_method_110_code 2 = .ok (.iconst 0, 1) := by decide +kernel
theorem d_Mo_fewestOf_3 : decode prog_13_method_110_code 3 = .ok (.istore_n 3, 1) := by decide +kernel
theorem d_Mo_fewestOf_4 : decode prog_13_method_110_code 4 = .ok (.iload_n 3, 1) := by decide +kernel
theorem d_Mo_fewestOf_5 : decode prog_13_method_110_code 5 = .ok (.bipush 8, 2) := by decide +kernel
theorem d_Mo_fewestOf_54 : decode prog_13_method_110_code 54 = .ok (.iload_n 2, 1) := by decide +kernel
theorem d_Mo_fewestOf_55 : decode prog_13_method_110_code 55 = .ok (.ireturn, 1) := by decide +kernel
theorem d_Mo_fewestOf_10 : decode prog_13_method_110_code 10 = .ok (.aload_n 0, 1) := by decide +kernel
theorem d_Mo_fewestOf_11 : decode prog_13_method_110_code 11 = .ok (.iload_n 3, 1) := by decide +kernel
theorem d_Mo_fewestOf_12 : decode prog_13_method_110_code 12 = .ok (.invokevirtual 447, 3) := by decide +kernel
theorem d_Mo_fewestOf_18 : decode prog_13_method_110_code 18 = .ok (.iload_n 1, 1) := by decide +kernel
theorem d_Mo_fewestOf_19 : decode prog_13_method_110_code 19 = .ok (.iload_n 3, 1) := by decide +kernel
theorem d_Mo_fewestOf_20 : decode prog_13_method_110_code 20 = .ok (.invokestatic 177, 3) := by decide +kernel
theorem d_Mo_fewestOf_26 : decode prog_13_method_110_code 26 = .ok (.iload_n 2, 1) := by decide +kernel
theorem d_Mo_fewestOf_27 : decode prog_13_method_110_code 27 = .ok (.iconst (-1), 1) := by decide +kernel
theorem d_Mo_fewestOf_31 : decode prog_13_method_110_code 31 = .ok (.aload_n 0, 1) := by decide +kernel
theorem fl_Mo_139 : FL "ShadeTownModel" 139 T_Mo 66 := atG 1398 (by decide +kernel) rfl
theorem d_Mo_fewestOf_32 : decode prog_13_method_110_code 32 = .ok (.getfield 139, 3) := by decide +kernel
theorem d_Mo_fewestOf_35 : decode prog_13_method_110_code 35 = .ok (.iload_n 3, 1) := by decide +kernel
theorem d_Mo_fewestOf_36 : decode prog_13_method_110_code 36 = .ok (.iaload, 1) := by decide +kernel
theorem d_Mo_fewestOf_37 : decode prog_13_method_110_code 37 = .ok (.aload_n 0, 1) := by decide +kernel
theorem d_Mo_fewestOf_38 : decode prog_13_method_110_code 38 = .ok (.getfield 139, 3) := by decide +kernel
theorem d_Mo_fewestOf_41 : decode prog_13_method_110_code 41 = .ok (.iload_n 2, 1) := by decide +kernel
theorem d_Mo_fewestOf_42 : decode prog_13_method_110_code 42 = .ok (.iaload, 1) := by decide +kernel
theorem d_Mo_fewestOf_43 : decode prog_13_method_110_code 43 = .ok (.if_icmp .ge 5, 3) := by decide +kernel
theorem d_Mo_fewestOf_28 : decode prog_13_method_110_code 28 = .ok (.if_icmp .eq 18, 3) := by decide +kernel
theorem d_Mo_fewestOf_23 : decode prog_13_method_110_code 23 = .ok (.ifCond .ne 25, 3) := by decide +kernel
theorem d_Mo_fewestOf_15 : decode prog_13_method_110_code 15 = .ok (.ifCond .eq 33, 3) := by decide +kernel
theorem d_Mo_fewestOf_46 : decode prog_13_method_110_code 46 = .ok (.iload_n 3, 1) := by decide +kernel
theorem d_Mo_fewestOf_47 : decode prog_13_method_110_code 47 = .ok (.istore_n 2, 1) := by decide +kernel
theorem d_Mo_fewestOf_48 : decode prog_13_method_110_code 48 = .ok (.iinc 3 1, 3) := by decide +kernel
theorem d_Mo_fewestOf_51 : decode prog_13_method_110_code 51 = .ok (.goto (-47), 3) := by decide +kernel
theorem d_Mo_fewestOf_7 : decode prog_13_method_110_code 7 = .ok (.if_icmp .ge 47, 3) := by decide +kernel
def B_Mo_fewestOf_l4 (N : Nat) (a1 : Int32) (σ : Mem) (rec : Int32 → Int32 → Option (Int32)) (x2 : Int32) (x3 : Int32) : Option (Int32) :=
  if 8 ≤ x3 then
    (some x2)
  else
    (bnd1 (f_Mo_isBuyer σ x3) fun r12 =>
    bnd1 ((
      bnd1 ((
        if r12 = 0 then
          (some 0)
        else
          (bnd1 (f_Mo_has a1 x3) fun r20 =>
          if r20 = 0 then
            (if x2 = (-1) then
              (some 1)
            else
              (grd (inb x3 8) <|
              grd (inb x2 8) <|
              if (mI σ 108 (x2.toNatClampNeg)) ≤ (mI σ 108 (x3.toNatClampNeg)) then
                (some 0)
              else
                (some 1)))
          else
            (some 0))) : Option (Nat)) fun t15b =>
      if t15b = 0 then
        (some x2)
      else
      (some x3)) : Option (Int32)) fun y15_2 =>
    letv (x3 + 1) fun v48 =>
    rec y15_2 v48)
def L_Mo_fewestOf_l4 (N : Nat) (a1 : Int32) (σ : Mem) : Nat → Int32 → Int32 → Option (Int32)
  | 0, _, _ => none
  | k + 1, x2, x3 => B_Mo_fewestOf_l4 N a1 σ (L_Mo_fewestOf_l4 N a1 σ k) x2 x3
set_option maxHeartbeats 4000000 in
set_option maxRecDepth 20000 in
theorem cL_Mo_fewestOf_l4 (Z : ZX) {Y : YX} {post : Option Value → Mem → Prop} {N : Nat} {a1 : Int32} {σ : Mem} {Good : Int32 → Prop} (hR : ∀ (v : Int32), Good v → post (some (.int v)) σ) : ∀ (k : Nat) (x2 : Int32) (x3 : Int32) (res : Int32), L_Mo_fewestOf_l4 N a1 σ k x2 x3 = some res → Good res → V (mkB Z) Y m_Mo_fewestOf 2 (QP (mkB Z) Y nC 0 0 post) 0 0 nC σ 4 [(0, rf Z 65), (1, .int a1), (2, .int x2), (3, .int x3)] [] := by
  intro k
  induction k with
  | zero => intro x2 x3 res h; cases h
  | succ k ih =>
    intro x2 x3 res h hg
    replace h : B_Mo_fewestOf_l4 N a1 σ (L_Mo_fewestOf_l4 N a1 σ k) x2 x3 = some res := h
    unfold B_Mo_fewestOf_l4 at h
    refine V.iload_n d_Mo_fewestOf_4 rfl 3 rfl ?_
    refine V.bipush (v := 8) d_Mo_fewestOf_5 (by decide) ?_
    refine V.icmp_ge (tgt := 54) d_Mo_fewestOf_7 (by decide) (fun hc7 => ?_) (fun hc7 => ?_)
    · replace h := ite_t hc7 h
      refine V.iload_n d_Mo_fewestOf_54 rfl 2 rfl ?_
      cases h
      exact V.iret rfl d_Mo_fewestOf_55 (hR _ hg)
    · replace h := ite_f hc7 h
      refine V.aload_n d_Mo_fewestOf_10 rfl 0 rfl ?_
      refine V.iload_n d_Mo_fewestOf_11 rfl 3 rfl ?_
      obtain ⟨r12, h1, h⟩ := bnd1_e h
      refine V.vI (as := [.int x3]) (st := []) (c_Mo_isBuyer Z h1) k_Mo_isBuyer lk_Mo_447 (by decide) rfl (by decide) ly_65 ok_Mo.1 rfl (Nat.le_of_ble_eq_true rfl) d_Mo_fewestOf_12 ?_
      obtain ⟨s15, h1, h⟩ := bnd1_e h
      have J15_48 : ∀ (y15_2 : Int32), s15 = y15_2 → V (mkB Z) Y m_Mo_fewestOf 2 (QP (mkB Z) Y nC 0 0 post) 0 0 nC σ 48 [(0, rf Z 65), (1, .int a1), (2, .int y15_2), (3, .int x3)] [] := by
        intro y15_2 he
        rw [he] at h
        obtain ⟨v48, e_v48, h⟩ := letv_e h
        refine V.iinc (v := v48) (lv' := [(3, .int v48), (0, rf Z 65), (1, .int a1), (2, .int y15_2)]) d_Mo_fewestOf_48 3 rfl (by rw [e_v48]; rfl) (by decide) rfl ?_
        refine V.goto (tgt := 4) d_Mo_fewestOf_51 (by decide) ?_
        exact V.pick [1, 2, 3, 0] rfl (ih _ _ _ h hg)
      replace h := h1
      obtain ⟨s15b, h1, h⟩ := bnd1_e h
      have J15b_48 : s15b = 0 → V (mkB Z) Y m_Mo_fewestOf 2 (QP (mkB Z) Y nC 0 0 post) 0 0 nC σ 48 [(0, rf Z 65), (1, .int a1), (2, .int x2), (3, .int x3)] [] := by
        intro he
        rw [he] at h
        replace h := ite_t rfl h
        exact V.pick [0, 1, 2, 3] rfl (J15_48 _ (Option.some.inj h).symm)
      have J15b_46 : s15b = 1 → V (mkB Z) Y m_Mo_fewestOf 2 (QP (mkB Z) Y nC 0 0 post) 0 0 nC σ 46 [(0, rf Z 65), (1, .int a1), (3, .int x3)] [] := by
        intro he
        rw [he] at h
        replace h := ite_f (by decide) h
        refine V.iload_n d_Mo_fewestOf_46 rfl 2 rfl ?_
        refine V.istore_n (lv' := [(2, .int x3), (0, rf Z 65), (1, .int a1), (3, .int x3)]) d_Mo_fewestOf_47 rfl (by decide) rfl ?_
        exact V.pick [1, 2, 0, 3] rfl (J15_48 _ (Option.some.inj h).symm)
      replace h := h1
      refine V.if_eq (tgt := 48) d_Mo_fewestOf_15 (by decide) (fun hc15 => ?_) (fun hc15 => ?_)
      · replace h := ite_t hc15 h
        exact V.pick [0, 1, 2, 3] rfl (J15b_48 (Option.some.inj h).symm)
      · replace h := ite_f hc15 h
        refine V.iload_n d_Mo_fewestOf_18 rfl 1 rfl ?_
        refine V.iload_n d_Mo_fewestOf_19 rfl 3 rfl ?_
        obtain ⟨r20, h1, h⟩ := bnd1_e h
        refine V.sI (as := [.int a1, .int x3]) (st := []) (c_Mo_has Z h1) k_Mo_has lk_Mo_177 (by decide) rfl rfl (Nat.le_of_ble_eq_true rfl) d_Mo_fewestOf_20 ?_
        refine V.if_ne (tgt := 48) d_Mo_fewestOf_23 (by decide) (fun hc23 => ?_) (fun hc23 => ?_)
        · replace h := ite_f hc23 h
          exact V.pick [0, 1, 2, 3] rfl (J15b_48 (Option.some.inj h).symm)
        · replace h := ite_t hc23 h
          refine V.iload_n d_Mo_fewestOf_26 rfl 2 rfl ?_
          refine V.iconst (v := (-1)) d_Mo_fewestOf_27 (by decide) ?_
          refine V.icmp_eq (tgt := 46) d_Mo_fewestOf_28 (by decide) (fun hc28 => ?_) (fun hc28 => ?_)
          · replace h := ite_t hc28 h
            exact V.pick [0, 1, 3] rfl (J15b_46 (Option.some.inj h).symm)
          · replace h := ite_f hc28 h
            refine V.aload_n d_Mo_fewestOf_31 rfl 0 rfl ?_
            refine V.getR (r := 108) ok_Mo fl_Mo_139 (by decide) (by decide) ly_65 rfl d_Mo_fewestOf_32 ?_
            refine V.iload_n d_Mo_fewestOf_35 rfl 3 rfl ?_
            obtain ⟨gq, h⟩ := grd_e h
            refine V.ra (by decide) ly_108 (inb_e gq) rfl d_Mo_fewestOf_36 ?_
            refine V.aload_n d_Mo_fewestOf_37 rfl 0 rfl ?_
            refine V.getR (r := 108) ok_Mo fl_Mo_139 (by decide) (by decide) ly_65 rfl d_Mo_fewestOf_38 ?_
            refine V.iload_n d_Mo_fewestOf_41 rfl 2 rfl ?_
            obtain ⟨gq, h⟩ := grd_e h
            refine V.ra (by decide) ly_108 (inb_e gq) rfl d_Mo_fewestOf_42 ?_
            refine V.icmp_ge (tgt := 48) d_Mo_fewestOf_43 (by decide) (fun hc43 => ?_) (fun hc43 => ?_)
            · replace h := ite_t hc43 h
              exact V.pick [0, 1, 2, 3] rfl (J15b_48 (Option.some.inj h).symm)
            · replace h := ite_f hc43 h
              exact V.pick [0, 1, 3] rfl (J15b_46 (Option.some.inj h).symm)
def f_Mo_fewestOf (N : Nat) (σ : Mem) (a1 : Int32) : Option (Int32) :=
  L_Mo_fewestOf_l4 N a1 σ N (-1) 0
set_option maxHeartbeats 4000000 in
set_option maxRecDepth 20000 in
theorem c_Mo_fewestOf (Z : ZX) {N : Nat} {σ : Mem} {a1 : Int32} {r : Int32} (h : f_Mo_fewestOf N σ a1 = some r) : CI Z 2 m_Mo_fewestOf [rf Z 65, .int a1] σ r σ := by
  refine Ct.of (by decide +kernel) (Nat.le_of_ble_eq_true rfl) (fun Y => ?_)
  show V (mkB Z) Y m_Mo_fewestOf 2 (QP (mkB Z) Y nC 0 0 (fun v t => v = some (.int r) ∧ t = σ)) 0 0 nC σ 0 [(0, rf Z 65), (1, .int a1)] []
  unfold f_Mo_fewestOf at h
  refine V.iconst (v := (-1)) d_Mo_fewestOf_0 (by decide) ?_
  refine V.istore_n (lv' := [(2, .int (-1)), (0, rf Z 65), (1, .int a1)]) d_Mo_fewestOf_1 rfl (by decide) rfl ?_
  refine V.iconst (v := 0) d_Mo_fewestOf_2 (by decide) ?_
  refine V.istore_n (lv' := [(3, .int 0), (2, .int (-1)), (0, rf Z 65), (1, .int a1)]) d_Mo_fewestOf_3 rfl (by decide) rfl ?_
  refine V.pick [2, 3, 1, 0] rfl (cL_Mo_fewestOf_l4 Z (Good := fun z => z = _) (fun r4v he => ?_) N _ _ _ h rfl)
  · cases he
    exact ⟨rfl, rfl⟩
