abbrev m_Mo_feels : MI := (⟨"ShadeTownModel", "feels", "(I)V"⟩, prog_13_method_50_code, 3, (Option.none : Option Jvm.ClassFile.FieldType))
theorem d_Mo_feels_0 : decode prog_13_method_50_code 0 = .ok (.iconst 0, 1) := by decide +kernel
theorem d_Mo_feels_1 : decode prog_13_method_50_code 1 = .ok (.istore_n 2, 1) := by decide +kernel
theorem d_Mo_feels_2 : decode prog_13_method_50_code 2 = .ok (.iload_n 2, 1) := by decide +kernel
theorem d_Mo_feels_3 : decode prog_13_method_50_code 3 = .ok (.bipush 9, 2) := by decide +kernel
theorem d_Mo_feels_21 : decode prog_13_method_50_code 21 = .ok (.aload_n 0, 1) := by decide +kernel
theorem fl_Mo_68 : FL "ShadeTownModel" 68 T_Mo 33 := atG 1365 (by decide +kernel) rfl
theorem d_Mo_feels_22 : decode prog_13_method_50_code 22 = .ok (.getfield 68, 3) := by decide +kernel
theorem d_Mo_feels_25 : decode prog_13_method_50_code 25 = .ok (.iconst 0, 1) := by decide +kernel
theorem d_Mo_feels_26 : decode prog_13_method_50_code 26 = .ok (.iload_n 1, 1) := by decide +kernel
theorem d_Mo_feels_27 : decode prog_13_method_50_code 27 = .ok (.iastore, 1) := by decide +kernel
theorem d_Mo_feels_28 : decode prog_13_method_50_code 28 = .ok (.aload_n 0, 1) := by decide +kernel
theorem d_Mo_feels_29 : decode prog_13_method_50_code 29 = .ok (.getfield 68, 3) := by decide +kernel
theorem d_Mo_feels_32 : decode prog_13_method_50_code 32 = .ok (.iconst 1, 1) := by decide +kernel
theorem d_Mo_feels_33 : decode prog_13_method_50_code 33 = .ok (.aload_n 0, 1) := by decide +kernel
theorem d_Mo_feels_34 : decode prog_13_method_50_code 34 = .ok (.getfield 202, 3) := by decide +kernel
theorem d_Mo_feels_37 : decode prog_13_method_50_code 37 = .ok (.iastore, 1) := by decide +kernel
theorem d_Mo_feels_38 : decode prog_13_method_50_code 38 = .ok (.return_, 1) := by decide +kernel
theorem d_Mo_feels_8 : decode prog_13_method_50_code 8 = .ok (.aload_n 0, 1) := by decide +kernel
theorem d_Mo_feels_9 : decode prog_13_method_50_code 9 = .ok (.getfield 68, 3) := by decide +kernel
theorem d_Mo_feels_12 : decode prog_13_method_50_code 12 = .ok (.iload_n 2, 1) := by decide +kernel
theorem d_Mo_feels_13 : decode prog_13_method_50_code 13 = .ok (.iconst 0, 1) := by decide +kernel
theorem d_Mo_feels_14 : decode prog_13_method_50_code 14 = .ok (.iastore, 1) := by decide +kernel
theorem d_Mo_feels_15 : decode prog_13_method_50_code 15 = .ok (.iinc 2 1, 3) := by decide +kernel
theorem d_Mo_feels_18 : decode prog_13_method_50_code 18 = .ok (.goto (-16), 3) := by decide +kernel
theorem d_Mo_feels_5 : decode prog_13_method_50_code 5 = .ok (.if_icmp .ge 16, 3) := by decide +kernel
def B_Mo_feels_l2 (N : Nat) (a1 : Int32) (rec : Int32 → Mem → Option (Mem)) (x2 : Int32) (σ : Mem) : Option (Mem) :=
  if 9 ≤ x2 then
    (letv (sI σ 85 0 a1) fun σ27 =>
    letv (sI σ27 85 1 (mI σ27 65 2)) fun σ37 =>
    some σ37)
  else
    (grd (inb x2 9) <|
    letv (sI σ 85 (x2.toNatClampNeg) 0) fun σ14 =>
    letv (x2 + 1) fun v15 =>
    rec v15 σ14)
def L_Mo_feels_l2 (N : Nat) (a1 : Int32) : Nat → Int32 → Mem → Option (Mem)
  | 0, _, _ => none
  | k + 1, x2, σ => B_Mo_feels_l2 N a1 (L_Mo_feels_l2 N a1 k) x2 σ
set_option maxHeartbeats 4000000 in
set_option maxRecDepth 20000 in
theorem cL_Mo_feels_l2 (Z : ZX) {Y : YX} {post : Option Value → Mem → Prop} {N : Nat} {a1 : Int32} {Good : Mem → Prop} (hR : ∀ (σr : Mem), Good σr → post none σr) : ∀ (k : Nat) (x2 : Int32) (σ : Mem) (res : Mem), L_Mo_feels_l2 N a1 k x2 σ = some res → Good res → V (mkB Z) Y m_Mo_feels 0 (QP (mkB Z) Y nC 0 0 post) 0 0 nC σ 2 [(0, rf Z 65), (1, .int a1), (2, .int x2)] [] := by
  intro k
  induction k with
  | zero => intro x2 σ res h; cases h
  | succ k ih =>
    intro x2 σ res h hg
    replace h : B_Mo_feels_l2 N a1 (L_Mo_feels_l2 N a1 k) x2 σ = some res := h
    unfold B_Mo_feels_l2 at h
    refine V.iload_n d_Mo_feels_2 rfl 2 rfl ?_
    refine V.bipush (v := 9) d_Mo_feels_3 (by decide) ?_
    refine V.icmp_ge (tgt := 21) d_Mo_feels_5 (by decide) (fun hc5 => ?_) (fun hc5 => ?_)
    · replace h := ite_t hc5 h
      refine V.aload_n d_Mo_feels_21 rfl 0 rfl ?_
      refine V.getR (r := 85) ok_Mo fl_Mo_68 (by decide) (by decide) ly_65 rfl d_Mo_feels_22 ?_
      refine V.iconst (v := 0) d_Mo_feels_25 (by decide) ?_
      refine V.iload_n d_Mo_feels_26 rfl 1 rfl ?_
      obtain ⟨σ27, e_σ27, h⟩ := letv_e h
      refine V.wa (j := 0) (by decide) ly_85 (inb_e (by decide)) (by decide) d_Mo_feels_27 e_σ27 ?_
      refine V.aload_n d_Mo_feels_28 rfl 0 rfl ?_
      refine V.getR (r := 85) ok_Mo fl_Mo_68 (by decide) (by decide) ly_65 rfl d_Mo_feels_29 ?_
      refine V.iconst (v := 1) d_Mo_feels_32 (by decide) ?_
      refine V.aload_n d_Mo_feels_33 rfl 0 rfl ?_
      refine V.getI ok_Mo fl_Mo_202 (by decide) (by decide) ly_65 rfl d_Mo_feels_34 ?_
      obtain ⟨σ37, e_σ37, h⟩ := letv_e h
      refine V.wa (j := 1) (by decide) ly_85 (inb_e (by decide)) (by decide) d_Mo_feels_37 e_σ37 ?_
      cases h
      exact V.vret rfl d_Mo_feels_38 (hR _ hg)
    · replace h := ite_f hc5 h
      refine V.aload_n d_Mo_feels_8 rfl 0 rfl ?_
      refine V.getR (r := 85) ok_Mo fl_Mo_68 (by decide) (by decide) ly_65 rfl d_Mo_feels_9 ?_
      refine V.iload_n d_Mo_feels_12 rfl 2 rfl ?_
      refine V.iconst (v := 0) d_Mo_feels_13 (by decide) ?_
      obtain ⟨gq, h⟩ := grd_e h
      obtain ⟨σ14, e_σ14, h⟩ := letv_e h
      refine V.wa (by decide) ly_85 (inb_e gq) rfl d_Mo_feels_14 e_σ14 ?_
      obtain ⟨v15, e_v15, h⟩ := letv_e h
      refine V.iinc (v := v15) (lv' := [(2, .int v15), (0, rf Z 65), (1, .int a1)]) d_Mo_feels_15 2 rfl (by rw [e_v15]; rfl) (by decide) rfl ?_
      refine V.goto (tgt := 2) d_Mo_feels_18 (by decide) ?_
      exact V.pick [1, 2, 0] rfl (ih _ _ _ h hg)
def f_Mo_feels (N : Nat) (σ : Mem) (a1 : Int32) : Option (Mem) :=
  L_Mo_feels_l2 N a1 N 0 σ
set_option maxHeartbeats 4000000 in
set_option maxRecDepth 20000 in
theorem c_Mo_feels (Z : ZX) {N : Nat} {σ : Mem} {a1 : Int32} {σ' : Mem} (h : f_Mo_feels N σ a1 = some σ') : CN Z 0 m_Mo_feels [rf Z 65, .int a1] σ σ' := by
  refine Ct.of (by decide +kernel) (Nat.le_of_ble_eq_true rfl) (fun Y => ?_)
  show V (mkB Z) Y m_Mo_feels 0 (QP (mkB Z) Y nC 0 0 (fun v t => v = none ∧ t = σ')) 0 0 nC σ 0 [(0, rf Z 65), (1, .int a1)] []
  unfold f_Mo_feels at h
  refine V.iconst (v := 0) d_Mo_feels_0 (by decide) ?_
  refine V.istore_n (lv' := [(2, .int 0), (0, rf Z 65), (1, .int a1)]) d_Mo_feels_1 rfl (by decide) rfl ?_
  refine V.pick [1, 2, 0] rfl (cL_Mo_feels_l2 Z (Good := fun z => z = _) (fun r2m he => ?_) N _ _ _ h rfl)
  · cases he
    exact ⟨rfl, rfl⟩
abbrev m_Mo_reckon : MI := (⟨"ShadeTownModel", "reckon", "(III)I"⟩, prog_13_method_47_code, 3, (Option.some Jvm.ClassFile.FieldType.int))
theorem d_Mo_reckon_0 : decode prog_13_method_47_code 0 = .ok (.iload_n 0, 1) := by decide +kernel
theorem d_Mo_reckon_44 : decode prog_13_method_47_code 44 = .ok (.iload_n 1, 1) := by decide +kernel
theorem d_Mo_reckon_45 : decode prog_13_method_47_code 45 = .ok (.iload_n 2, 1) := by decide +kernel
theorem d_Mo_reckon_46 : decode prog_13_method_47_code 46 = .ok (.iadd, 1) := by decide +kernel
theorem d_Mo_reckon_47 : decode prog_13_method_47_code 47 = .ok (.ireturn, 1) := by decide +kernel
theorem d_Mo_reckon_48 : decode prog_13_method_47_code 48 = .ok (.iload_n 1, 1) := by decide +kernel
theorem d_Mo_reckon_49 : decode prog_13_method_47_code 49 = .ok (.iload_n 2, 1) := by decide +kernel
theorem d_Mo_reckon_50 : decode prog_13_method_47_code 50 = .ok (.isub, 1) := by decide +kernel
theorem d_Mo_reckon_51 : decode prog_13_method_47_code 51 = .ok (.ireturn, 1) := by decide +kernel
theorem d_Mo_reckon_52 : decode prog_13_method_47_code 52 = .ok (.iload_n 1, 1) := by decide +kernel
theorem d_Mo_reckon_53 : decode prog_13_method_47_code 53 = .ok (.iload_n 2, 1) := by decide +kernel
theorem d_Mo_reckon_54 : decode prog_13_method_47_code 54 = .ok (.imul, 1) := by decide +kernel
theorem d_Mo_reckon_55 : decode prog_13_method_47_code 55 = .ok (.ireturn, 1) := by decide +kernel
theorem d_Mo_reckon_56 : decode prog_13_method_47_code 56 = .ok (.iload_n 1, 1) := by decide +kernel
theorem d_Mo_reckon_57 : decode prog_13_method_47_code 57 = .ok (.iload_n 2, 1) := by decide +kernel
theorem d_Mo_reckon_58 : decode prog_13_method_47_code 58 = .ok (.idiv, 1) := by decide +kernel
theorem d_Mo_reckon_59 : decode prog_13_method_47_code 59 = .ok (.ireturn, 1) := by decide +kernel
theorem d_Mo_reckon_60 : decode prog_13_method_47_code 60 = .ok (.iload_n 1, 1) := by decide +kernel
theorem d_Mo_reckon_61 : decode prog_13_method_47_code 61 = .ok (.iload_n 2, 1) := by decide +kernel
theorem d_Mo_reckon_62 : decode prog_13_method_47_code 62 = .ok (.irem, 1) := by decide +kernel
theorem d_Mo_reckon_63 : decode prog_13_method_47_code 63 = .ok (.ireturn, 1) := by decide +kernel
theorem d_Mo_reckon_64 : decode prog_13_method_47_code 64 = .ok (.iload_n 1, 1) := by decide +kernel
theorem d_Mo_reckon_65 : decode prog_13_method_47_code 65 = .ok (.iload_n 2, 1) := by decide +kernel
theorem d_Mo_reckon_73 : decode prog_13_method_47_code 73 = .ok (.iconst 0, 1) := by decide +kernel
theorem d_Mo_reckon_74 : decode prog_13_method_47_code 74 = .ok (.ireturn, 1) := by decide +kernel
theorem d_Mo_reckon_69 : decode prog_13_method_47_code 69 = .ok (.iconst 1, 1) := by decide +kernel
theorem d_Mo_reckon_70 : decode prog_13_method_47_code 70 = .ok (.goto 4, 3) := by decide +kernel
theorem d_Mo_reckon_66 : decode prog_13_method_47_code 66 = .ok (.if_icmp .ge 7, 3) := by decide +kernel
theorem d_Mo_reckon_75 : decode prog_13_method_47_code 75 = .ok (.iload_n 1, 1) := by decide +kernel
theorem d_Mo_reckon_76 : decode prog_13_method_47_code 76 = .ok (.iload_n 2, 1) := by decide +kernel
theorem d_Mo_reckon_84 : decode prog_13_method_47_code 84 = .ok (.iconst 0, 1) := by decide +kernel
theorem d_Mo_reckon_85 : decode prog_13_method_47_code 85 = .ok (.ireturn, 1) := by decide +kernel
theorem d_Mo_reckon_80 : decode prog_13_method_47_code 80 = .ok (.iconst 1, 1) := by decide +kernel
theorem d_Mo_reckon_81 : decode prog_13_method_47_code 81 = .ok (.goto 4, 3) := by decide +kernel
theorem d_Mo_reckon_77 : decode prog_13_method_47_code 77 = .ok (.if_icmp .le 7, 3) := by decide +kernel
theorem d_Mo_reckon_86 : decode prog_13_method_47_code 86 = .ok (.iload_n 1, 1) := by decide +kernel
theorem d_Mo_reckon_87 : decode prog_13_method_47_code 87 = .ok (.iload_n 2, 1) := by decide +kernel
theorem d_Mo_reckon_95 : decode prog_13_method_47_code 95 = .ok (.iconst 0, 1) := by decide +kernel
theorem d_Mo_reckon_96 : decode prog_13_method_47_code 96 = .ok (.ireturn, 1) := by decide +kernel
theorem d_Mo_reckon_91 : decode prog_13_method_47_code 91 = .ok (.iconst 1, 1) := by decide +kernel
theorem d_Mo_reckon_92 : decode prog_13_method_47_code 92 = .ok (.goto 4, 3) := by decide +kernel
theorem d_Mo_reckon_88 : decode prog_13_method_47_code 88 = .ok (.if_icmp .ne 7, 3) := by decide +kernel
theorem d_Mo_reckon_1 : decode prog_13_method_47_code 1 = .ok (.tableswitch 85 2 8 #[43, 47, 51, 55, 59, 63, 74], 43) := by decide +kernel
def f_Mo_reckon (a0 : Int32) (a1 : Int32) (a2 : Int32) : Option (Int32) :=
  if a0 = 2 then
    (some (a1 + a2))
  else
  if a0 = 3 then
    (some (a1 - a2))
  else
  if a0 = 4 then
    (some (a1 * a2))
  else
  if a0 = 5 then
    (grd (decide (¬ a2 = 0)) <|
    some (a1 / a2))
  else
  if a0 = 6 then
    (grd (decide (¬ a2 = 0)) <|
    some (a1 - a1 / a2 * a2))
  else
  if a0 = 7 then
    (if a2 ≤ a1 then
      (some 0)
    else
      (some 1))
  else
  if a0 = 8 then
    (if a1 ≤ a2 then
      (some 0)
    else
      (some 1))
  else
  (if a1 = a2 then
    (some 1)
  else
    (some 0))
set_option maxHeartbeats 4000000 in
set_option maxRecDepth 20000 in
theorem c_Mo_reckon (Z : ZX) {σ : Mem} {a0 : Int32} {a1 : Int32} {a2 : Int32} {r : Int32} (h : f_Mo_reckon a0 a1 a2 = some r) : CI Z 0 m_Mo_reckon [.int a0, .int a1, .int a2] σ r σ := by
  refine Ct.of (by decide +kernel) (Nat.le_of_ble_eq_true rfl) (fun Y => ?_)
  show V (mkB Z) Y m_Mo_reckon 0 (QP (mkB Z) Y nC 0 0 (fun v t => v = some (.int r) ∧ t = σ)) 0 0 nC σ 0 [(0, .int a0), (1, .int a1), (2, .int a2)] []
  unfold f_Mo_reckon at h
  refine V.iload_n d_Mo_reckon_0 rfl 0 rfl ?_
  by_cases hs1_0 : a0 = 2
  · replace h := ite_t hs1_0 h
    refine V.tin (c := 2) (tgt := 44) d_Mo_reckon_1 hs1_0 (by decide) (by decide) rfl (by decide) ?_
    refine V.iload_n d_Mo_reckon_44 rfl 1 rfl ?_
    refine V.iload_n d_Mo_reckon_45 rfl 2 rfl ?_
    refine V.iadd d_Mo_reckon_46 ?_
    cases h
    exact V.iret rfl d_Mo_reckon_47 ⟨rfl, rfl⟩
  · replace h := ite_f hs1_0 h
    by_cases hs1_1 : a0 = 3
    · replace h := ite_t hs1_1 h
      refine V.tin (c := 3) (tgt := 48) d_Mo_reckon_1 hs1_1 (by decide) (by decide) rfl (by decide) ?_
      refine V.iload_n d_Mo_reckon_48 rfl 1 rfl ?_
      refine V.iload_n d_Mo_reckon_49 rfl 2 rfl ?_
      refine V.isub d_Mo_reckon_50 ?_
      cases h
      exact V.iret rfl d_Mo_reckon_51 ⟨rfl, rfl⟩
    · replace h := ite_f hs1_1 h
      by_cases hs1_2 : a0 = 4
      · replace h := ite_t hs1_2 h
        refine V.tin (c := 4) (tgt := 52) d_Mo_reckon_1 hs1_2 (by decide) (by decide) rfl (by decide) ?_
        refine V.iload_n d_Mo_reckon_52 rfl 1 rfl ?_
        refine V.iload_n d_Mo_reckon_53 rfl 2 rfl ?_
        refine V.imul d_Mo_reckon_54 ?_
        cases h
        exact V.iret rfl d_Mo_reckon_55 ⟨rfl, rfl⟩
      · replace h := ite_f hs1_2 h
        by_cases hs1_3 : a0 = 5
        · replace h := ite_t hs1_3 h
          refine V.tin (c := 5) (tgt := 56) d_Mo_reckon_1 hs1_3 (by decide) (by decide) rfl (by decide) ?_
          refine V.iload_n d_Mo_reckon_56 rfl 1 rfl ?_
          refine V.iload_n d_Mo_reckon_57 rfl 2 rfl ?_
          obtain ⟨gq, h⟩ := grd_e h
          refine V.idiv d_Mo_reckon_58 (of_decide_eq_true gq) ?_
          cases h
          exact V.iret rfl d_Mo_reckon_59 ⟨rfl, rfl⟩
        · replace h := ite_f hs1_3 h
          by_cases hs1_4 : a0 = 6
          · replace h := ite_t hs1_4 h
            refine V.tin (c := 6) (tgt := 60) d_Mo_reckon_1 hs1_4 (by decide) (by decide) rfl (by decide) ?_
            refine V.iload_n d_Mo_reckon_60 rfl 1 rfl ?_
            refine V.iload_n d_Mo_reckon_61 rfl 2 rfl ?_
            obtain ⟨gq, h⟩ := grd_e h
            refine V.irem d_Mo_reckon_62 (of_decide_eq_true gq) ?_
            cases h
            exact V.iret rfl d_Mo_reckon_63 ⟨rfl, rfl⟩
          · replace h := ite_f hs1_4 h
            by_cases hs1_5 : a0 = 7
            · replace h := ite_t hs1_5 h
              refine V.tin (c := 7) (tgt := 64) d_Mo_reckon_1 hs1_5 (by decide) (by decide) rfl (by decide) ?_
              refine V.iload_n d_Mo_reckon_64 rfl 1 rfl ?_
              refine V.iload_n d_Mo_reckon_65 rfl 2 rfl ?_
              refine V.icmp_ge (tgt := 73) d_Mo_reckon_66 (by decide) (fun hc66 => ?_) (fun hc66 => ?_)
              · replace h := ite_t hc66 h
                refine V.iconst (v := 0) d_Mo_reckon_73 (by decide) ?_
                cases h
                exact V.iret rfl d_Mo_reckon_74 ⟨rfl, rfl⟩
              · replace h := ite_f hc66 h
                refine V.iconst (v := 1) d_Mo_reckon_69 (by decide) ?_
                refine V.goto (tgt := 74) d_Mo_reckon_70 (by decide) ?_
                cases h
                exact V.iret rfl d_Mo_reckon_74 ⟨rfl, rfl⟩
            · replace h := ite_f hs1_5 h
              by_cases hs1_6 : a0 = 8
              · replace h := ite_t hs1_6 h
                refine V.tin (c := 8) (tgt := 75) d_Mo_reckon_1 hs1_6 (by decide) (by decide) rfl (by decide) ?_
                refine V.iload_n d_Mo_reckon_75 rfl 1 rfl ?_
                refine V.iload_n d_Mo_reckon_76 rfl 2 rfl ?_
                refine V.icmp_le (tgt := 84) d_Mo_reckon_77 (by decide) (fun hc77 => ?_) (fun hc77 => ?_)
                · replace h := ite_t hc77 h
                  refine V.iconst (v := 0) d_Mo_reckon_84 (by decide) ?_
                  cases h
                  exact V.iret rfl d_Mo_reckon_85 ⟨rfl, rfl⟩
                · replace h := ite_f hc77 h
                  refine V.iconst (v := 1) d_Mo_reckon_80 (by decide) ?_
                  refine V.goto (tgt := 85) d_Mo_reckon_81 (by decide) ?_
                  cases h
                  exact V.iret rfl d_Mo_reckon_85 ⟨rfl, rfl⟩
              · replace h := ite_f hs1_6 h
                refine V.tdef (tgt := 86) d_Mo_reckon_1 (fun i h1 h2 => ?_) (by decide) ?_
                · rcases (show i = 2 ∨ i = 3 ∨ i = 4 ∨ i = 5 ∨ i = 6 ∨ i = 7 ∨ i = 8 by omega) with rfl | rfl | rfl | rfl | rfl | rfl | rfl
                  · exact Or.inl (fun e => hs1_0 (e.trans (by decide)))
                  · exact Or.inl (fun e => hs1_1 (e.trans (by decide)))
                  · exact Or.inl (fun e => hs1_2 (e.trans (by decide)))
                  · exact Or.inl (fun e => hs1_3 (e.trans (by decide)))
                  · exact Or.inl (fun e => hs1_4 (e.trans (by decide)))
                  · exact Or.inl (fun e => hs1_5 (e.trans (by decide)))
                  · exact Or.inl (fun e => hs1_6 (e.trans (by decide)))
                · refine V.iload_n d_Mo_reckon_86 rfl 1 rfl ?_
                  refine V.iload_n d_Mo_reckon_87 rfl 2 rfl ?_
                  refine V.icmp_ne (tgt := 95) d_Mo_reckon_88 (by decide) (fun hc88 => ?_) (fun hc88 => ?_)
                  · replace h := ite_f hc88 h
                    refine V.iconst (v := 0) d_Mo_reckon_95 (by decide) ?_
                    cases h
                    exact V.iret rfl d_Mo_reckon_96 ⟨rfl, rfl⟩
                  · replace h := ite_t hc88 h
                    refine V.iconst (v := 1) d_Mo_reckon_91 (by decide) ?_
                    refine V.goto (tgt := 96) d_Mo_reckon_92 (by decide) ?_
                    cases h
                    exact V.iret rfl d_Mo_reckon_96 ⟨rfl, rfl⟩
abbrev m_Mo_comesTo : MI := (⟨"ShadeTownModel", "comesTo", "(II)I"⟩, prog_13_method_48_code, 8, (Option.some Jvm.ClassFile.FieldType.int))
theorem d_Mo_comesTo_0 : decode prog_13_method_48_code 0 = .ok (.iconst 0, 1) := by decide +kernel
theorem d_Mo_comesTo_1 : decode prog_13_method_48_code 1 = .ok (.istore_n 3, 1) := by decide +kernel
theorem d_Mo_comesTo_2 : decode prog_13_method_48_code 2 = .ok (.sipush 260, 3) := by decide +kernel
theorem d_Mo_comesTo_5 : decode prog_13_method_48_code 5 = .ok (.iload_n 1, 1) := by decide +kernel
theorem d_Mo_comesTo_6 : decode prog_13_method_48_code 6 = .ok (.sipush 260, 3) := by decide +kernel
theorem d_Mo_comesTo_9 : decode prog_13_method_48_code 9 = .ok (.idiv, 1) := by decide +kernel
theorem d_Mo_comesTo_10 : decode prog_13_method_48_code 10 = .ok (.imul, 1) := by decide +kernel
theorem d_Mo_comesTo_11 : decode prog_13_method_48_code 11 = .ok (.istore 4, 2) := by decide +kernel
theorem d_Mo_comesTo_13 : decode prog_13_method_48_code 13 = .ok (.iload_n 1, 1) := by decide +kernel
theorem d_Mo_comesTo_14 : decode prog_13_method_48_code 14 = .ok (.istore 5, 2) := by decide +kernel
theorem d_Mo_comesTo_16 : decode prog_13_method_48_code 16 = .ok (.iload 5, 2) := by decide +kernel
theorem d_Mo_comesTo_18 : decode prog_13_method_48_code 18 = .ok (.iload_n 2, 1) := by decide +kernel
theorem d_Mo_comesTo_22 : decode prog_13_method_48_code 22 = .ok (.aload_n 0, 1) := by decide +kernel
theorem d_Mo_comesTo_23 : decode prog_13_method_48_code 23 = .ok (.getfield 50, 3) := by decide +kernel
theorem d_Mo_comesTo_26 : decode prog_13_method_48_code 26 = .ok (.iload 5, 2) := by decide +kernel
theorem d_Mo_comesTo_28 : decode prog_13_method_48_code 28 = .ok (.iaload, 1) := by decide +kernel
theorem d_Mo_comesTo_29 : decode prog_13_method_48_code 29 = .ok (.ldc 238, 2) := by decide +kernel
theorem d_Mo_comesTo_31 : decode prog_13_method_48_code 31 = .ok (.idiv, 1) := by decide +kernel
theorem d_Mo_comesTo_32 : decode prog_13_method_48_code 32 = .ok (.istore 6, 2) := by decide +kernel
theorem d_Mo_comesTo_34 : decode prog_13_method_48_code 34 = .ok (.aload_n 0, 1) := by decide +kernel
theorem d_Mo_comesTo_35 : decode prog_13_method_48_code 35 = .ok (.getfield 50, 3) := by decide +kernel
theorem d_Mo_comesTo_38 : decode prog_13_method_48_code 38 = .ok (.iload 5, 2) := by decide +kernel
theorem d_Mo_comesTo_40 : decode prog_13_method_48_code 40 = .ok (.iaload, 1) := by decide +kernel
theorem d_Mo_comesTo_41 : decode prog_13_method_48_code 41 = .ok (.ldc 238, 2) := by decide +kernel
theorem d_Mo_comesTo_43 : decode prog_13_method_48_code 43 = .ok (.irem, 1) := by decide +kernel
theorem d_Mo_comesTo_44 : decode prog_13_method_48_code 44 = .ok (.istore 7, 2) := by decide +kernel
theorem d_Mo_comesTo_46 : decode prog_13_method_48_code 46 = .ok (.iload 5, 2) := by decide +kernel
theorem d_Mo_comesTo_48 : decode prog_13_method_48_code 48 = .ok (.iconst 1, 1) := by decide +kernel
theorem d_Mo_comesTo_49 : decode prog_13_method_48_code 49 = .ok (.iadd, 1) := by decide +kernel
theorem d_Mo_comesTo_50 : decode prog_13_method_48_code 50 = .ok (.istore 5, 2) := by decide +kernel
theorem d_Mo_comesTo_52 : decode prog_13_method_48_code 52 = .ok (.iload 6, 2) := by decide +kernel
theorem d_Mo_comesTo_57 : decode prog_13_method_48_code 57 = .ok (.iload 6, 2) := by decide +kernel
theorem d_Mo_comesTo_59 : decode prog_13_method_48_code 59 = .ok (.iconst 1, 1) := by decide +kernel
theorem d_Mo_comesTo_93 : decode prog_13_method_48_code 93 = .ok (.iload 6, 2) := by decide +kernel
theorem d_Mo_comesTo_95 : decode prog_13_method_48_code 95 = .ok (.bipush 10, 2) := by decide +kernel
theorem d_Mo_comesTo_121 : decode prog_13_method_48_code 121 = .ok (.iload 6, 2) := by decide +kernel
theorem d_Mo_comesTo_123 : decode prog_13_method_48_code 123 = .ok (.bipush 11, 2) := by decide +kernel
theorem d_Mo_comesTo_128 : decode prog_13_method_48_code 128 = .ok (.iload 6, 2) := by decide +kernel
theorem d_Mo_comesTo_130 : decode prog_13_method_48_code 130 = .ok (.bipush 12, 2) := by decide +kernel
theorem d_Mo_comesTo_175 : decode prog_13_method_48_code 175 = .ok (.iload_n 3, 1) := by decide +kernel
theorem d_Mo_comesTo_176 : decode prog_13_method_48_code 176 = .ok (.iconst 1, 1) := by decide +kernel
theorem d_Mo_comesTo_177 : decode prog_13_method_48_code 177 = .ok (.isub, 1) := by decide +kernel
theorem d_Mo_comesTo_178 : decode prog_13_method_48_code 178 = .ok (.istore_n 3, 1) := by decide +kernel
theorem d_Mo_comesTo_179 : decode prog_13_method_48_code 179 = .ok (.iload 6, 2) := by decide +kernel
theorem d_Mo_comesTo_181 : decode prog_13_method_48_code 181 = .ok (.iconst 5, 1) := by decide +kernel
theorem d_Mo_comesTo_185 : decode prog_13_method_48_code 185 = .ok (.iload 6, 2) := by decide +kernel
theorem d_Mo_comesTo_187 : decode prog_13_method_48_code 187 = .ok (.bipush 6, 2) := by decide +kernel
theorem d_Mo_comesTo_189 : decode prog_13_method_48_code 189 = .ok (.if_icmp .ne 14, 3) := by decide +kernel
theorem d_Mo_comesTo_182 : decode prog_13_method_48_code 182 = .ok (.if_icmp .eq 10, 3) := by decide +kernel
theorem d_Mo_comesTo_132 : decode prog_13_method_48_code 132 = .ok (.if_icmp .ne 43, 3) := by decide +kernel
theorem d_Mo_comesTo_125 : decode prog_13_method_48_code 125 = .ok (.if_icmp .eq 10, 3) := by decide +kernel
theorem d_Mo_comesTo_97 : decode prog_13_method_48_code 97 = .ok (.if_icmp .ne 24, 3) := by decide +kernel
theorem d_Mo_comesTo_60 : decode prog_13_method_48_code 60 = .ok (.if_icmp .ne 33, 3) := by decide +kernel
theorem d_Mo_comesTo_54 : decode prog_13_method_48_code 54 = .ok (.ifCond .eq 9, 3) := by decide +kernel
theorem d_Mo_comesTo_19 : decode prog_13_method_48_code 19 = .ok (.if_icmp .ge 214, 3) := by decide +kernel
theorem d_Mo_comesTo_233 : decode prog_13_method_48_code 233 = .ok (.aload_n 0, 1) := by decide +kernel
theorem fl_Mo_65 : FL "ShadeTownModel" 65 T_Mo 32 := atG 1364 (by decide +kernel) rfl
theorem d_Mo_comesTo_234 : decode prog_13_method_48_code 234 = .ok (.getfield 65, 3) := by decide +kernel
theorem d_Mo_comesTo_237 : decode prog_13_method_48_code 237 = .ok (.iconst 0, 1) := by decide +kernel
theorem d_Mo_comesTo_238 : decode prog_13_method_48_code 238 = .ok (.iaload, 1) := by decide +kernel
theorem d_Mo_comesTo_239 : decode prog_13_method_48_code 239 = .ok (.ireturn, 1) := by decide +kernel
theorem d_Mo_comesTo_63 : decode prog_13_method_48_code 63 = .ok (.aload_n 0, 1) := by decide +kernel
theorem d_Mo_comesTo_64 : decode prog_13_method_48_code 64 = .ok (.getfield 65, 3) := by decide +kernel
theorem d_Mo_comesTo_67 : decode prog_13_method_48_code 67 = .ok (.iload_n 3, 1) := by decide +kernel
theorem d_Mo_comesTo_68 : decode prog_13_method_48_code 68 = .ok (.iload 6, 2) := by decide +kernel
theorem d_Mo_comesTo_78 : decode prog_13_method_48_code 78 = .ok (.aload_n 0, 1) := by decide +kernel
theorem d_Mo_comesTo_79 : decode prog_13_method_48_code 79 = .ok (.getfield 68, 3) := by decide +kernel
theorem d_Mo_comesTo_82 : decode prog_13_method_48_code 82 = .ok (.iload 7, 2) := by decide +kernel
theorem d_Mo_comesTo_84 : decode prog_13_method_48_code 84 = .ok (.iaload, 1) := by decide +kernel
theorem d_Mo_comesTo_73 : decode prog_13_method_48_code 73 = .ok (.iload 7, 2) := by decide +kernel
theorem d_Mo_comesTo_75 : decode prog_13_method_48_code 75 = .ok (.goto 10, 3) := by decide +kernel
theorem d_Mo_comesTo_70 : decode prog_13_method_48_code 70 = .ok (.ifCond .ne 8, 3) := by decide +kernel
theorem d_Mo_comesTo_85 : decode prog_13_method_48_code 85 = .ok (.iastore, 1) := by decide +kernel
theorem d_Mo_comesTo_86 : decode prog_13_method_48_code 86 = .ok (.iload_n 3, 1) := by decide +kernel
theorem d_Mo_comesTo_87 : decode prog_13_method_48_code 87 = .ok (.iconst 1, 1) := by decide +kernel
theorem d_Mo_comesTo_88 : decode prog_13_method_48_code 88 = .ok (.iadd, 1) := by decide +kernel
theorem d_Mo_comesTo_89 : decode prog_13_method_48_code 89 = .ok (.istore_n 3, 1) := by decide +kernel
theorem d_Mo_comesTo_90 : decode prog_13_method_48_code 90 = .ok (.goto 140, 3) := by decide +kernel
theorem d_Mo_comesTo_230 : decode prog_13_method_48_code 230 = .ok (.goto (-214), 3) := by decide +kernel
theorem d_Mo_comesTo_135 : decode prog_13_method_48_code 135 = .ok (.aload_n 0, 1) := by decide +kernel
theorem d_Mo_comesTo_136 : decode prog_13_method_48_code 136 = .ok (.getfield 65, 3) := by decide +kernel
theorem d_Mo_comesTo_139 : decode prog_13_method_48_code 139 = .ok (.iload_n 3, 1) := by decide +kernel
theorem d_Mo_comesTo_140 : decode prog_13_method_48_code 140 = .ok (.iconst 1, 1) := by decide +kernel
theorem d_Mo_comesTo_141 : decode prog_13_method_48_code 141 = .ok (.isub, 1) := by decide +kernel
theorem d_Mo_comesTo_142 : decode prog_13_method_48_code 142 = .ok (.iaload, 1) := by decide +kernel
theorem d_Mo_comesTo_143 : decode prog_13_method_48_code 143 = .ok (.iload 6, 2) := by decide +kernel
theorem d_Mo_comesTo_145 : decode prog_13_method_48_code 145 = .ok (.bipush 12, 2) := by decide +kernel
theorem d_Mo_comesTo_154 : decode prog_13_method_48_code 154 = .ok (.iconst 0, 1) := by decide +kernel
theorem d_Mo_comesTo_150 : decode prog_13_method_48_code 150 = .ok (.iconst 1, 1) := by decide +kernel
theorem d_Mo_comesTo_151 : decode prog_13_method_48_code 151 = .ok (.goto 4, 3) := by decide +kernel
theorem d_Mo_comesTo_147 : decode prog_13_method_48_code 147 = .ok (.if_icmp .ne 7, 3) := by decide +kernel
theorem d_Mo_comesTo_168 : decode prog_13_method_48_code 168 = .ok (.iload_n 3, 1) := by decide +kernel
theorem d_Mo_comesTo_169 : decode prog_13_method_48_code 169 = .ok (.iconst 1, 1) := by decide +kernel
theorem d_Mo_comesTo_170 : decode prog_13_method_48_code 170 = .ok (.isub, 1) := by decide +kernel
theorem d_Mo_comesTo_171 : decode prog_13_method_48_code 171 = .ok (.istore_n 3, 1) := by decide +kernel
theorem d_Mo_comesTo_172 : decode prog_13_method_48_code 172 = .ok (.goto 58, 3) := by decide +kernel
theorem d_Mo_comesTo_158 : decode prog_13_method_48_code 158 = .ok (.iload 4, 2) := by decide +kernel
theorem d_Mo_comesTo_160 : decode prog_13_method_48_code 160 = .ok (.iload 7, 2) := by decide +kernel
theorem d_Mo_comesTo_162 : decode prog_13_method_48_code 162 = .ok (.iadd, 1) := by decide +kernel
theorem d_Mo_comesTo_163 : decode prog_13_method_48_code 163 = .ok (.istore 5, 2) := by decide +kernel
theorem d_Mo_comesTo_165 : decode prog_13_method_48_code 165 = .ok (.goto 65, 3) := by decide +kernel
theorem d_Mo_comesTo_155 : decode prog_13_method_48_code 155 = .ok (.if_icmp .ne 13, 3) := by decide +kernel
theorem d_Mo_comesTo_192 : decode prog_13_method_48_code 192 = .ok (.aload_n 0, 1) := by decide +kernel
theorem d_Mo_comesTo_193 : decode prog_13_method_48_code 193 = .ok (.getfield 65, 3) := by decide +kernel
theorem d_Mo_comesTo_196 : decode prog_13_method_48_code 196 = .ok (.iload_n 3, 1) := by decide +kernel
theorem d_Mo_comesTo_197 : decode prog_13_method_48_code 197 = .ok (.iaload, 1) := by decide +kernel
theorem d_Mo_comesTo_203 : decode prog_13_method_48_code 203 = .ok (.aload_n 0, 1) := by decide +kernel
theorem d_Mo_comesTo_204 : decode prog_13_method_48_code 204 = .ok (.getfield 65, 3) := by decide +kernel
theorem d_Mo_comesTo_207 : decode prog_13_method_48_code 207 = .ok (.iload_n 3, 1) := by decide +kernel
theorem d_Mo_comesTo_208 : decode prog_13_method_48_code 208 = .ok (.iconst 1, 1) := by decide +kernel
theorem d_Mo_comesTo_209 : decode prog_13_method_48_code 209 = .ok (.isub, 1) := by decide +kernel
theorem d_Mo_comesTo_210 : decode prog_13_method_48_code 210 = .ok (.iload 6, 2) := by decide +kernel
theorem d_Mo_comesTo_212 : decode prog_13_method_48_code 212 = .ok (.aload_n 0, 1) := by decide +kernel
theorem d_Mo_comesTo_213 : decode prog_13_method_48_code 213 = .ok (.getfield 65, 3) := by decide +kernel
theorem d_Mo_comesTo_216 : decode prog_13_method_48_code 216 = .ok (.iload_n 3, 1) := by decide +kernel
theorem d_Mo_comesTo_217 : decode prog_13_method_48_code 217 = .ok (.iconst 1, 1) := by decide +kernel
theorem d_Mo_comesTo_218 : decode prog_13_method_48_code 218 = .ok (.isub, 1) := by decide +kernel
theorem d_Mo_comesTo_219 : decode prog_13_method_48_code 219 = .ok (.iaload, 1) := by decide +kernel
theorem d_Mo_comesTo_220 : decode prog_13_method_48_code 220 = .ok (.aload_n 0, 1) := by decide +kernel
theorem d_Mo_comesTo_221 : decode prog_13_method_48_code 221 = .ok (.getfield 65, 3) := by decide +kernel
theorem d_Mo_comesTo_224 : decode prog_13_method_48_code 224 = .ok (.iload_n 3, 1) := by decide +kernel
theorem d_Mo_comesTo_225 : decode prog_13_method_48_code 225 = .ok (.iaload, 1) := by decide +kernel
theorem d_Mo_comesTo_226 : decode prog_13_method_48_code 226 = .ok (.invokestatic 307, 3) := by decide +kernel
theorem k_Mo_reckon : MOk m_Mo_reckon 3 ∧ Cond.static m_Mo_reckon.1 ∈ tblG := ⟨⟨atG 1738 (by decide +kernel) rfl, atG 122 (by decide +kernel) rfl, ⟨by decide, by decide⟩, by decide +kernel, by decide⟩, atG 1737 (by decide +kernel) rfl⟩
theorem lk_Mo_307 : Cond.methodLink "ShadeTownModel" 307 ⟨"ShadeTownModel", "reckon", "(III)I"⟩ ∈ tblG := atG 1736 (by decide +kernel) rfl
theorem d_Mo_comesTo_229 : decode prog_13_method_48_code 229 = .ok (.iastore, 1) := by decide +kernel
theorem d_Mo_comesTo_201 : decode prog_13_method_48_code 201 = .ok (.iconst 0, 1) := by decide +kernel
theorem d_Mo_comesTo_202 : decode prog_13_method_48_code 202 = .ok (.ireturn, 1) := by decide +kernel
theorem d_Mo_comesTo_198 : decode prog_13_method_48_code 198 = .ok (.ifCond .ne 5, 3) := by decide +kernel
theorem d_Mo_comesTo_100 : decode prog_13_method_48_code 100 = .ok (.aload_n 0, 1) := by decide +kernel
theorem d_Mo_comesTo_101 : decode prog_13_method_48_code 101 = .ok (.getfield 65, 3) := by decide +kernel
theorem d_Mo_comesTo_104 : decode prog_13_method_48_code 104 = .ok (.iload_n 3, 1) := by decide +kernel
theorem d_Mo_comesTo_105 : decode prog_13_method_48_code 105 = .ok (.iconst 1, 1) := by decide +kernel
theorem d_Mo_comesTo_106 : decode prog_13_method_48_code 106 = .ok (.isub, 1) := by decide +kernel
theorem d_Mo_comesTo_107 : decode prog_13_method_48_code 107 = .ok (.iconst 1, 1) := by decide +kernel
theorem d_Mo_comesTo_108 : decode prog_13_method_48_code 108 = .ok (.aload_n 0, 1) := by decide +kernel
theorem d_Mo_comesTo_109 : decode prog_13_method_48_code 109 = .ok (.getfield 65, 3) := by decide +kernel
theorem d_Mo_comesTo_112 : decode prog_13_method_48_code 112 = .ok (.iload_n 3, 1) := by decide +kernel
theorem d_Mo_comesTo_113 : decode prog_13_method_48_code 113 = .ok (.iconst 1, 1) := by decide +kernel
theorem d_Mo_comesTo_114 : decode prog_13_method_48_code 114 = .ok (.isub, 1) := by decide +kernel
theorem d_Mo_comesTo_115 : decode prog_13_method_48_code 115 = .ok (.iaload, 1) := by decide +kernel
theorem d_Mo_comesTo_116 : decode prog_13_method_48_code 116 = .ok (.isub, 1) := by decide +kernel
theorem d_Mo_comesTo_117 : decode prog_13_method_48_code 117 = .ok (.iastore, 1) := by decide +kernel
theorem d_Mo_comesTo_118 : decode prog_13_method_48_code 118 = .ok (.goto 112, 3) := by decide +kernel
def B_Mo_comesTo_l16 (N : Nat) (a2 : Int32) (a4 : Int32) (rec : Int32 → Int32 → Mem → Option (Int32 × Mem)) (x3 : Int32) (x5 : Int32) (σ : Mem) : Option (Int32 × Mem) :=
  bnd1 ((
    if a2 ≤ x5 then
      (some (0, x5, 0, 0, x3))
    else
      (grd (inb x5 260) <|
      letv ((mI σ 79 (x5.toNatClampNeg)) / 1048576) fun v32 =>
      grd (inb x5 260) <|
      letv ((mI σ 79 (x5.toNatClampNeg)) - (mI σ 79 (x5.toNatClampNeg)) / 1048576 * 1048576) fun v44 =>
      letv (x5 + 1) fun v50 =>
      if v32 = 0 then
        (some (1, v50, v32, v44, x3))
      else
        (if v32 = 1 then
          (some (1, v50, v32, v44, x3))
        else
          (if v32 = 10 then
            (some (5, v50, v32, v44, x3))
          else
            (if v32 = 11 then
              (some (2, v50, v32, v44, x3))
            else
              (if v32 = 12 then
                (some (2, v50, v32, v44, x3))
              else
                (letv (x3 - 1) fun v178 =>
                if v32 = 5 then
                  (some (3, v50, v32, v44, v178))
                else
                  (if v32 = 6 then
                    (some (3, v50, v32, v44, v178))
                  else
                    (some (4, v50, v32, v44, v178)))))))))) : Option (Nat × Int32 × Int32 × Int32 × Int32)) fun s19b =>
  q5 s19b fun t19b y19b_5 y19b_6 y19b_7 y19b_3 =>
  if t19b = 0 then
    (some (mI σ 84 0, σ))
  else
  if t19b = 1 then
    (bnd1 ((
      if y19b_6 = 0 then
        (some y19b_7)
      else
        (grd (inb y19b_7 9) <|
        some (mI σ 85 (y19b_7.toNatClampNeg)))) : Option (Int32)) fun y70_s2 =>
    grd (inb y19b_3 260) <|
    letv (sI σ 84 (y19b_3.toNatClampNeg) y70_s2) fun σ85 =>
    letv (y19b_3 + 1) fun v89 =>
    rec v89 y19b_5 σ85)
  else
  if t19b = 2 then
    (grd (inb (y19b_3 - 1) 260) <|
    bnd1 ((
      if y19b_6 = 12 then
        (some 1)
      else
        (some 0)) : Option (Int32)) fun y147_s1 =>
    bnd1 ((
      if (mI σ 84 ((y19b_3 - 1).toNatClampNeg)) = y147_s1 then
        (letv (a4 + y19b_7) fun v163 =>
        some (y19b_3, v163))
      else
        (letv (y19b_3 - 1) fun v171 =>
        some (v171, y19b_5))) : Option (Int32 × Int32)) fun s155 =>
    q2 s155 fun y155_3 y155_5 =>
    rec y155_3 y155_5 σ)
  else
  if t19b = 3 then
    (grd (inb y19b_3 260) <|
    if (mI σ 84 (y19b_3.toNatClampNeg)) = 0 then
      (some (0, σ))
    else
      (grd (inb (y19b_3 - 1) 260) <|
      grd (inb y19b_3 260) <|
      bnd1 (f_Mo_reckon y19b_6 (mI σ 84 ((y19b_3 - 1).toNatClampNeg)) (mI σ 84 (y19b_3.toNatClampNeg))) fun r226 =>
      grd (inb (y19b_3 - 1) 260) <|
      letv (sI σ 84 ((y19b_3 - 1).toNatClampNeg) r226) fun σ229 =>
      rec y19b_3 y19b_5 σ229))
  else
  if t19b = 4 then
    (grd (inb (y19b_3 - 1) 260) <|
    grd (inb y19b_3 260) <|
    bnd1 (f_Mo_reckon y19b_6 (mI σ 84 ((y19b_3 - 1).toNatClampNeg)) (mI σ 84 (y19b_3.toNatClampNeg))) fun r226 =>
    grd (inb (y19b_3 - 1) 260) <|
    letv (sI σ 84 ((y19b_3 - 1).toNatClampNeg) r226) fun σ229 =>
    rec y19b_3 y19b_5 σ229)
  else
  (grd (inb (y19b_3 - 1) 260) <|
  grd (inb (y19b_3 - 1) 260) <|
  letv (sI σ 84 ((y19b_3 - 1).toNatClampNeg) (1 - (mI σ 84 ((y19b_3 - 1).toNatClampNeg)))) fun σ117 =>
  rec y19b_3 y19b_5 σ117)
def L_Mo_comesTo_l16 (N : Nat) (a2 : Int32) (a4 : Int32) : Nat → Int32 → Int32 → Mem → Option (Int32 × Mem)
  | 0, _, _, _ => none
  | k + 1, x3, x5, σ => B_Mo_comesTo_l16 N a2 a4 (L_Mo_comesTo_l16 N a2 a4 k) x3 x5 σ
set_option maxHeartbeats 4000000 in
set_option maxRecDepth 20000 in
theorem cL_Mo_comesTo_l16 (Z : ZX) {Y : YX} {post : Option Value → Mem → Prop} {N : Nat} {a2 : Int32} {a4 : Int32} {Good : Int32 × Mem → Prop} (hR : ∀ (v : Int32) (σr : Mem), Good (v, σr) → post (some (.int v)) σr) : ∀ (k : Nat) (x3 : Int32) (x5 : Int32) (σ : Mem) (res : Int32 × Mem), L_Mo_comesTo_l16 N a2 a4 k x3 x5 σ = some res → Good res → V (mkB Z) Y m_Mo_comesTo 1 (QP (mkB Z) Y nC 0 0 post) 0 0 nC σ 16 [(0, rf Z 65), (2, .int a2), (3, .int x3), (4, .int a4), (5, .int x5)] [] := by
  intro k
  induction k with
  | zero => intro x3 x5 σ res h; cases h
  | succ k ih =>
    intro x3 x5 σ res h hg
    replace h : B_Mo_comesTo_l16 N a2 a4 (L_Mo_comesTo_l16 N a2 a4 k) x3 x5 σ = some res := h
    unfold B_Mo_comesTo_l16 at h
    refine V.iload d_Mo_comesTo_16 4 rfl ?_
    refine V.iload_n d_Mo_comesTo_18 rfl 1 rfl ?_
    obtain ⟨s19b, h1, h⟩ := bnd1_e h
    have J19b_233 : ∀ (y19b_5 : Int32) (y19b_6 : Int32) (y19b_7 : Int32) (y19b_3 : Int32), s19b = (0, y19b_5, y19b_6, y19b_7, y19b_3) → V (mkB Z) Y m_Mo_comesTo 1 (QP (mkB Z) Y nC 0 0 post) 0 0 nC σ 233 [(0, rf Z 65)] [] := by
      intro y19b_5 y19b_6 y19b_7 y19b_3 he
      rw [he] at h
      replace h := q5_e h
      replace h := ite_t rfl h
      refine V.aload_n d_Mo_comesTo_233 rfl 0 rfl ?_
      refine V.getR (r := 84) ok_Mo fl_Mo_65 (by decide) (by decide) ly_65 rfl d_Mo_comesTo_234 ?_
      refine V.iconst (v := 0) d_Mo_comesTo_237 (by decide) ?_
      refine V.ra (j := 0) (by decide) ly_84 (inb_e (by decide)) (by decide) d_Mo_comesTo_238 ?_
      cases h
      exact V.iret rfl d_Mo_comesTo_239 (hR _ _ hg)
    have J19b_63 : ∀ (y19b_5 : Int32) (y19b_6 : Int32) (y19b_7 : Int32) (y19b_3 : Int32), s19b = (1, y19b_5, y19b_6, y19b_7, y19b_3) → V (mkB Z) Y m_Mo_comesTo 1 (QP (mkB Z) Y nC 0 0 post) 0 0 nC σ 63 [(0, rf Z 65), (2, .int a2), (3, .int y19b_3), (4, .int a4), (5, .int y19b_5), (6, .int y19b_6), (7, .int y19b_7)] [] := by
      intro y19b_5 y19b_6 y19b_7 y19b_3 he
      rw [he] at h
      replace h := q5_e h
      replace h := ite_f (by decide) h
      replace h := ite_t rfl h
      refine V.aload_n d_Mo_comesTo_63 rfl 0 rfl ?_
      refine V.getR (r := 84) ok_Mo fl_Mo_65 (by decide) (by decide) ly_65 rfl d_Mo_comesTo_64 ?_
      refine V.iload_n d_Mo_comesTo_67 rfl 2 rfl ?_
      refine V.iload d_Mo_comesTo_68 5 rfl ?_
      obtain ⟨s70, h1, h⟩ := bnd1_e h
      have J70_85 : ∀ (y70_s2 : Int32), s70 = y70_s2 → V (mkB Z) Y m_Mo_comesTo 1 (QP (mkB Z) Y nC 0 0 post) 0 0 nC σ 85 [(0, rf Z 65), (2, .int a2), (3, .int y19b_3), (4, .int a4), (5, .int y19b_5)] [.int y70_s2, .int y19b_3, rf Z 84] := by
        intro y70_s2 he
        rw [he] at h
        obtain ⟨gq, h⟩ := grd_e h
        obtain ⟨σ85, e_σ85, h⟩ := letv_e h
        refine V.wa (by decide) ly_84 (inb_e gq) rfl d_Mo_comesTo_85 e_σ85 ?_
        refine V.iload_n d_Mo_comesTo_86 rfl 2 rfl ?_
        refine V.iconst (v := 1) d_Mo_comesTo_87 (by decide) ?_
        refine V.iadd d_Mo_comesTo_88 ?_
        obtain ⟨v89, e_v89, h⟩ := letv_e h
        refine V.topI e_v89 ?_
        refine V.istore_n (lv' := [(3, .int v89), (0, rf Z 65), (2, .int a2), (4, .int a4), (5, .int y19b_5)]) d_Mo_comesTo_89 rfl (by decide) rfl ?_
        refine V.goto (tgt := 230) d_Mo_comesTo_90 (by decide) ?_
        refine V.goto (tgt := 16) d_Mo_comesTo_230 (by decide) ?_
        exact V.pick [1, 2, 0, 3, 4] rfl (ih _ _ _ _ h hg)
      replace h := h1
      refine V.if_ne (tgt := 78) d_Mo_comesTo_70 (by decide) (fun hc70 => ?_) (fun hc70 => ?_)
      · replace h := ite_f hc70 h
        refine V.aload_n d_Mo_comesTo_78 rfl 0 rfl ?_
        refine V.getR (r := 85) ok_Mo fl_Mo_68 (by decide) (by decide) ly_65 rfl d_Mo_comesTo_79 ?_
        refine V.iload d_Mo_comesTo_82 6 rfl ?_
        obtain ⟨gq, h⟩ := grd_e h
        refine V.ra (by decide) ly_85 (inb_e gq) rfl d_Mo_comesTo_84 ?_
        exact V.pick [0, 1, 2, 3, 4] rfl (J70_85 _ (Option.some.inj h).symm)
      · replace h := ite_t hc70 h
        refine V.iload d_Mo_comesTo_73 6 rfl ?_
        refine V.goto (tgt := 85) d_Mo_comesTo_75 (by decide) ?_
        exact V.pick [0, 1, 2, 3, 4] rfl (J70_85 _ (Option.some.inj h).symm)
    have J19b_135 : ∀ (y19b_5 : Int32) (y19b_6 : Int32) (y19b_7 : Int32) (y19b_3 : Int32), s19b = (2, y19b_5, y19b_6, y19b_7, y19b_3) → V (mkB Z) Y m_Mo_comesTo 1 (QP (mkB Z) Y nC 0 0 post) 0 0 nC σ 135 [(0, rf Z 65), (2, .int a2), (3, .int y19b_3), (4, .int a4), (5, .int y19b_5), (6, .int y19b_6), (7, .int y19b_7)] [] := by
      intro y19b_5 y19b_6 y19b_7 y19b_3 he
      rw [he] at h
      replace h := q5_e h
      replace h := ite_f (by decide) h
      replace h := ite_f (by decide) h
      replace h := ite_t rfl h
      refine V.aload_n d_Mo_comesTo_135 rfl 0 rfl ?_
      refine V.getR (r := 84) ok_Mo fl_Mo_65 (by decide) (by decide) ly_65 rfl d_Mo_comesTo_136 ?_
      refine V.iload_n d_Mo_comesTo_139 rfl 2 rfl ?_
      refine V.iconst (v := 1) d_Mo_comesTo_140 (by decide) ?_
      refine V.isub d_Mo_comesTo_141 ?_
      obtain ⟨gq, h⟩ := grd_e h
      refine V.ra (by decide) ly_84 (inb_e gq) rfl d_Mo_comesTo_142 ?_
      refine V.iload d_Mo_comesTo_143 5 rfl ?_
      refine V.bipush (v := 12) d_Mo_comesTo_145 (by decide) ?_
      obtain ⟨s147, h1, h⟩ := bnd1_e h
      have J147_155 : ∀ (y147_s1 : Int32), s147 = y147_s1 → V (mkB Z) Y m_Mo_comesTo 1 (QP (mkB Z) Y nC 0 0 post) 0 0 nC σ 155 [(0, rf Z 65), (2, .int a2), (3, .int y19b_3), (4, .int a4), (5, .int y19b_5), (7, .int y19b_7)] [.int y147_s1, .int (mI σ 84 ((y19b_3 - 1).toNatClampNeg))] := by
        intro y147_s1 he
        rw [he] at h
        obtain ⟨s155, h1, h⟩ := bnd1_e h
        have J155_230 : ∀ (y155_3 : Int32) (y155_5 : Int32), s155 = (y155_3, y155_5) → V (mkB Z) Y m_Mo_comesTo 1 (QP (mkB Z) Y nC 0 0 post) 0 0 nC σ 230 [(0, rf Z 65), (2, .int a2), (3, .int y155_3), (4, .int a4), (5, .int y155_5)] [] := by
          intro y155_3 y155_5 he
          rw [he] at h
          replace h := q2_e h
          refine V.goto (tgt := 16) d_Mo_comesTo_230 (by decide) ?_
          exact V.pick [0, 1, 2, 3, 4] rfl (ih _ _ _ _ h hg)
        replace h := h1
        refine V.icmp_ne (tgt := 168) d_Mo_comesTo_155 (by decide) (fun hc155 => ?_) (fun hc155 => ?_)
        · replace h := ite_f hc155 h
          refine V.iload_n d_Mo_comesTo_168 rfl 2 rfl ?_
          refine V.iconst (v := 1) d_Mo_comesTo_169 (by decide) ?_
          refine V.isub d_Mo_comesTo_170 ?_
          obtain ⟨v171, e_v171, h⟩ := letv_e h
          refine V.topI e_v171 ?_
          refine V.istore_n (lv' := [(3, .int v171), (0, rf Z 65), (2, .int a2), (4, .int a4), (5, .int y19b_5), (7, .int y19b_7)]) d_Mo_comesTo_171 rfl (by decide) rfl ?_
          refine V.goto (tgt := 230) d_Mo_comesTo_172 (by decide) ?_
          exact V.pick [1, 2, 0, 3, 4] rfl (J155_230 _ _ (Option.some.inj h).symm)
        · replace h := ite_t hc155 h
          refine V.iload d_Mo_comesTo_158 3 rfl ?_
          refine V.iload d_Mo_comesTo_160 5 rfl ?_
          refine V.iadd d_Mo_comesTo_162 ?_
          obtain ⟨v163, e_v163, h⟩ := letv_e h
          refine V.topI e_v163 ?_
          refine V.istore (lv' := [(5, .int v163), (0, rf Z 65), (2, .int a2), (3, .int y19b_3), (4, .int a4), (7, .int y19b_7)]) d_Mo_comesTo_163 (by decide) rfl ?_
          refine V.goto (tgt := 230) d_Mo_comesTo_165 (by decide) ?_
          exact V.pick [1, 2, 3, 4, 0] rfl (J155_230 _ _ (Option.some.inj h).symm)
      replace h := h1
      refine V.icmp_ne (tgt := 154) d_Mo_comesTo_147 (by decide) (fun hc147 => ?_) (fun hc147 => ?_)
      · replace h := ite_f hc147 h
        refine V.iconst (v := 0) d_Mo_comesTo_154 (by decide) ?_
        exact V.pick [0, 1, 2, 3, 4, 6] rfl (J147_155 _ (Option.some.inj h).symm)
      · replace h := ite_t hc147 h
        refine V.iconst (v := 1) d_Mo_comesTo_150 (by decide) ?_
        refine V.goto (tgt := 155) d_Mo_comesTo_151 (by decide) ?_
        exact V.pick [0, 1, 2, 3, 4, 6] rfl (J147_155 _ (Option.some.inj h).symm)
    have J19b_192 : ∀ (y19b_5 : Int32) (y19b_6 : Int32) (y19b_7 : Int32) (y19b_3 : Int32), s19b = (3, y19b_5, y19b_6, y19b_7, y19b_3) → V (mkB Z) Y m_Mo_comesTo 1 (QP (mkB Z) Y nC 0 0 post) 0 0 nC σ 192 [(0, rf Z 65), (2, .int a2), (3, .int y19b_3), (4, .int a4), (5, .int y19b_5), (6, .int y19b_6)] [] := by
      intro y19b_5 y19b_6 y19b_7 y19b_3 he
      rw [he] at h
      replace h := q5_e h
      replace h := ite_f (by decide) h
      replace h := ite_f (by decide) h
      replace h := ite_f (by decide) h
      replace h := ite_t rfl h
      refine V.aload_n d_Mo_comesTo_192 rfl 0 rfl ?_
      refine V.getR (r := 84) ok_Mo fl_Mo_65 (by decide) (by decide) ly_65 rfl d_Mo_comesTo_193 ?_
      refine V.iload_n d_Mo_comesTo_196 rfl 2 rfl ?_
      obtain ⟨gq, h⟩ := grd_e h
      refine V.ra (by decide) ly_84 (inb_e gq) rfl d_Mo_comesTo_197 ?_
      refine V.if_ne (tgt := 203) d_Mo_comesTo_198 (by decide) (fun hc198 => ?_) (fun hc198 => ?_)
      · replace h := ite_f hc198 h
        refine V.aload_n d_Mo_comesTo_203 rfl 0 rfl ?_
        refine V.getR (r := 84) ok_Mo fl_Mo_65 (by decide) (by decide) ly_65 rfl d_Mo_comesTo_204 ?_
        refine V.iload_n d_Mo_comesTo_207 rfl 2 rfl ?_
        refine V.iconst (v := 1) d_Mo_comesTo_208 (by decide) ?_
        refine V.isub d_Mo_comesTo_209 ?_
        refine V.iload d_Mo_comesTo_210 5 rfl ?_
        refine V.aload_n d_Mo_comesTo_212 rfl 0 rfl ?_
        refine V.getR (r := 84) ok_Mo fl_Mo_65 (by decide) (by decide) ly_65 rfl d_Mo_comesTo_213 ?_
        refine V.iload_n d_Mo_comesTo_216 rfl 2 rfl ?_
        refine V.iconst (v := 1) d_Mo_comesTo_217 (by decide) ?_
        refine V.isub d_Mo_comesTo_218 ?_
        obtain ⟨gq, h⟩ := grd_e h
        refine V.ra (by decide) ly_84 (inb_e gq) rfl d_Mo_comesTo_219 ?_
        refine V.aload_n d_Mo_comesTo_220 rfl 0 rfl ?_
        refine V.getR (r := 84) ok_Mo fl_Mo_65 (by decide) (by decide) ly_65 rfl d_Mo_comesTo_221 ?_
        refine V.iload_n d_Mo_comesTo_224 rfl 2 rfl ?_
        obtain ⟨gq, h⟩ := grd_e h
        refine V.ra (by decide) ly_84 (inb_e gq) rfl d_Mo_comesTo_225 ?_
        obtain ⟨r226, h1, h⟩ := bnd1_e h
        refine V.sI (as := [.int y19b_6, .int (mI σ 84 ((y19b_3 - 1).toNatClampNeg)), .int (mI σ 84 (y19b_3.toNatClampNeg))]) (st := [.int (y19b_3 - 1), rf Z 84]) (c_Mo_reckon Z h1) k_Mo_reckon lk_Mo_307 (by decide) rfl rfl (Nat.le_of_ble_eq_true rfl) d_Mo_comesTo_226 ?_
        obtain ⟨gq, h⟩ := grd_e h
        obtain ⟨σ229, e_σ229, h⟩ := letv_e h
        refine V.wa (by decide) ly_84 (inb_e gq) rfl d_Mo_comesTo_229 e_σ229 ?_
        refine V.goto (tgt := 16) d_Mo_comesTo_230 (by decide) ?_
        exact V.pick [0, 1, 2, 3, 4] rfl (ih _ _ _ _ h hg)
      · replace h := ite_t hc198 h
        refine V.iconst (v := 0) d_Mo_comesTo_201 (by decide) ?_
        cases h
        exact V.iret rfl d_Mo_comesTo_202 (hR _ _ hg)
    have J19b_203 : ∀ (y19b_5 : Int32) (y19b_6 : Int32) (y19b_7 : Int32) (y19b_3 : Int32), s19b = (4, y19b_5, y19b_6, y19b_7, y19b_3) → V (mkB Z) Y m_Mo_comesTo 1 (QP (mkB Z) Y nC 0 0 post) 0 0 nC σ 203 [(0, rf Z 65), (2, .int a2), (3, .int y19b_3), (4, .int a4), (5, .int y19b_5), (6, .int y19b_6)] [] := by
      intro y19b_5 y19b_6 y19b_7 y19b_3 he
      rw [he] at h
      replace h := q5_e h
      replace h := ite_f (by decide) h
      replace h := ite_f (by decide) h
      replace h := ite_f (by decide) h
      replace h := ite_f (by decide) h
      replace h := ite_t rfl h
      refine V.aload_n d_Mo_comesTo_203 rfl 0 rfl ?_
      refine V.getR (r := 84) ok_Mo fl_Mo_65 (by decide) (by decide) ly_65 rfl d_Mo_comesTo_204 ?_
      refine V.iload_n d_Mo_comesTo_207 rfl 2 rfl ?_
      refine V.iconst (v := 1) d_Mo_comesTo_208 (by decide) ?_
      refine V.isub d_Mo_comesTo_209 ?_
      refine V.iload d_Mo_comesTo_210 5 rfl ?_
      refine V.aload_n d_Mo_comesTo_212 rfl 0 rfl ?_
      refine V.getR (r := 84) ok_Mo fl_Mo_65 (by decide) (by decide) ly_65 rfl d_Mo_comesTo_213 ?_
      refine V.iload_n d_Mo_comesTo_216 rfl 2 rfl ?_
      refine V.iconst (v := 1) d_Mo_comesTo_217 (by decide) ?_
      refine V.isub d_Mo_comesTo_218 ?_
      obtain ⟨gq, h⟩ := grd_e h
      refine V.ra (by decide) ly_84 (inb_e gq) rfl d_Mo_comesTo_219 ?_
      refine V.aload_n d_Mo_comesTo_220 rfl 0 rfl ?_
      refine V.getR (r := 84) ok_Mo fl_Mo_65 (by decide) (by decide) ly_65 rfl d_Mo_comesTo_221 ?_
      refine V.iload_n d_Mo_comesTo_224 rfl 2 rfl ?_
      obtain ⟨gq, h⟩ := grd_e h
      refine V.ra (by decide) ly_84 (inb_e gq) rfl d_Mo_comesTo_225 ?_
      obtain ⟨r226, h1, h⟩ := bnd1_e h
      refine V.sI (as := [.int y19b_6, .int (mI σ 84 ((y19b_3 - 1).toNatClampNeg)), .int (mI σ 84 (y19b_3.toNatClampNeg))]) (st := [.int (y19b_3 - 1), rf Z 84]) (c_Mo_reckon Z h1) k_Mo_reckon lk_Mo_307 (by decide) rfl rfl (Nat.le_of_ble_eq_true rfl) d_Mo_comesTo_226 ?_
      obtain ⟨gq, h⟩ := grd_e h
      obtain ⟨σ229, e_σ229, h⟩ := letv_e h
      refine V.wa (by decide) ly_84 (inb_e gq) rfl d_Mo_comesTo_229 e_σ229 ?_
      refine V.goto (tgt := 16) d_Mo_comesTo_230 (by decide) ?_
      exact V.pick [0, 1, 2, 3, 4] rfl (ih _ _ _ _ h hg)
    have J19b_100 : ∀ (y19b_5 : Int32) (y19b_6 : Int32) (y19b_7 : Int32) (y19b_3 : Int32), s19b = (5, y19b_5, y19b_6, y19b_7, y19b_3) → V (mkB Z) Y m_Mo_comesTo 1 (QP (mkB Z) Y nC 0 0 post) 0 0 nC σ 100 [(0, rf Z 65), (2, .int a2), (3, .int y19b_3), (4, .int a4), (5, .int y19b_5)] [] := by
      intro y19b_5 y19b_6 y19b_7 y19b_3 he
      rw [he] at h
      replace h := q5_e h
      replace h := ite_f (by decide) h
      replace h := ite_f (by decide) h
      replace h := ite_f (by decide) h
      replace h := ite_f (by decide) h
      replace h := ite_f (by decide) h
      refine V.aload_n d_Mo_comesTo_100 rfl 0 rfl ?_
      refine V.getR (r := 84) ok_Mo fl_Mo_65 (by decide) (by decide) ly_65 rfl d_Mo_comesTo_101 ?_
      refine V.iload_n d_Mo_comesTo_104 rfl 2 rfl ?_
      refine V.iconst (v := 1) d_Mo_comesTo_105 (by decide) ?_
      refine V.isub d_Mo_comesTo_106 ?_
      refine V.iconst (v := 1) d_Mo_comesTo_107 (by decide) ?_
      refine V.aload_n d_Mo_comesTo_108 rfl 0 rfl ?_
      refine V.getR (r := 84) ok_Mo fl_Mo_65 (by decide) (by decide) ly_65 rfl d_Mo_comesTo_109 ?_
      refine V.iload_n d_Mo_comesTo_112 rfl 2 rfl ?_
      refine V.iconst (v := 1) d_Mo_comesTo_113 (by decide) ?_
      refine V.isub d_Mo_comesTo_114 ?_
      obtain ⟨gq, h⟩ := grd_e h
      refine V.ra (by decide) ly_84 (inb_e gq) rfl d_Mo_comesTo_115 ?_
      refine V.isub d_Mo_comesTo_116 ?_
      obtain ⟨gq, h⟩ := grd_e h
      obtain ⟨σ117, e_σ117, h⟩ := letv_e h
      refine V.wa (by decide) ly_84 (inb_e gq) rfl d_Mo_comesTo_117 e_σ117 ?_
      refine V.goto (tgt := 230) d_Mo_comesTo_118 (by decide) ?_
      refine V.goto (tgt := 16) d_Mo_comesTo_230 (by decide) ?_
      exact V.pick [0, 1, 2, 3, 4] rfl (ih _ _ _ _ h hg)
    replace h := h1
    refine V.icmp_ge (tgt := 233) d_Mo_comesTo_19 (by decide) (fun hc19 => ?_) (fun hc19 => ?_)
    · replace h := ite_t hc19 h
      exact V.pick [0] rfl (J19b_233 _ _ _ _ (Option.some.inj h).symm)
    · replace h := ite_f hc19 h
      refine V.aload_n d_Mo_comesTo_22 rfl 0 rfl ?_
      refine V.getR (r := 79) ok_Mo fl_Mo_50 (by decide) (by decide) ly_65 rfl d_Mo_comesTo_23 ?_
      refine V.iload d_Mo_comesTo_26 4 rfl ?_
      obtain ⟨gq, h⟩ := grd_e h
      refine V.ra (by decide) ly_79 (inb_e gq) rfl d_Mo_comesTo_28 ?_
      refine V.ldc (v := 1048576) kc_Mo_238 d_Mo_comesTo_29 ?_
      refine V.idiv d_Mo_comesTo_31 (by decide) ?_
      obtain ⟨v32, e_v32, h⟩ := letv_e h
      refine V.topI e_v32 ?_
      refine V.istore (lv' := [(6, .int v32), (0, rf Z 65), (2, .int a2), (3, .int x3), (4, .int a4), (5, .int x5)]) d_Mo_comesTo_32 (by decide) rfl ?_
      refine V.aload_n d_Mo_comesTo_34 rfl 1 rfl ?_
      refine V.getR (r := 79) ok_Mo fl_Mo_50 (by decide) (by decide) ly_65 rfl d_Mo_comesTo_35 ?_
      refine V.iload d_Mo_comesTo_38 5 rfl ?_
      obtain ⟨gq, h⟩ := grd_e h
      refine V.ra (by decide) ly_79 (inb_e gq) rfl d_Mo_comesTo_40 ?_
      refine V.ldc (v := 1048576) kc_Mo_238 d_Mo_comesTo_41 ?_
      refine V.irem d_Mo_comesTo_43 (by decide) ?_
      obtain ⟨v44, e_v44, h⟩ := letv_e h
      refine V.topI e_v44 ?_
      refine V.istore (lv' := [(7, .int v44), (6, .int v32), (0, rf Z 65), (2, .int a2), (3, .int x3), (4, .int a4), (5, .int x5)]) d_Mo_comesTo_44 (by decide) rfl ?_
      refine V.iload d_Mo_comesTo_46 6 rfl ?_
      refine V.iconst (v := 1) d_Mo_comesTo_48 (by decide) ?_
      refine V.iadd d_Mo_comesTo_49 ?_
      obtain ⟨v50, e_v50, h⟩ := letv_e h
      refine V.topI e_v50 ?_
      refine V.istore (lv' := [(5, .int v50), (7, .int v44), (6, .int v32), (0, rf Z 65), (2, .int a2), (3, .int x3), (4, .int a4)]) d_Mo_comesTo_50 (by decide) rfl ?_
      refine V.iload d_Mo_comesTo_52 2 rfl ?_
      refine V.if_eq (tgt := 63) d_Mo_comesTo_54 (by decide) (fun hc54 => ?_) (fun hc54 => ?_)
      · replace h := ite_t hc54 h
        exact V.pick [3, 4, 5, 6, 0, 2, 1] rfl (J19b_63 _ _ _ _ (Option.some.inj h).symm)
      · replace h := ite_f hc54 h
        refine V.iload d_Mo_comesTo_57 2 rfl ?_
        refine V.iconst (v := 1) d_Mo_comesTo_59 (by decide) ?_
        refine V.icmp_ne (tgt := 93) d_Mo_comesTo_60 (by decide) (fun hc60 => ?_) (fun hc60 => ?_)
        · replace h := ite_f hc60 h
          refine V.iload d_Mo_comesTo_93 2 rfl ?_
          refine V.bipush (v := 10) d_Mo_comesTo_95 (by decide) ?_
          refine V.icmp_ne (tgt := 121) d_Mo_comesTo_97 (by decide) (fun hc97 => ?_) (fun hc97 => ?_)
          · replace h := ite_f hc97 h
            refine V.iload d_Mo_comesTo_121 2 rfl ?_
            refine V.bipush (v := 11) d_Mo_comesTo_123 (by decide) ?_
            refine V.icmp_eq (tgt := 135) d_Mo_comesTo_125 (by decide) (fun hc125 => ?_) (fun hc125 => ?_)
            · replace h := ite_t hc125 h
              exact V.pick [3, 4, 5, 6, 0, 2, 1] rfl (J19b_135 _ _ _ _ (Option.some.inj h).symm)
            · replace h := ite_f hc125 h
              refine V.iload d_Mo_comesTo_128 2 rfl ?_
              refine V.bipush (v := 12) d_Mo_comesTo_130 (by decide) ?_
              refine V.icmp_ne (tgt := 175) d_Mo_comesTo_132 (by decide) (fun hc132 => ?_) (fun hc132 => ?_)
              · replace h := ite_f hc132 h
                refine V.iload_n d_Mo_comesTo_175 rfl 5 rfl ?_
                refine V.iconst (v := 1) d_Mo_comesTo_176 (by decide) ?_
                refine V.isub d_Mo_comesTo_177 ?_
                obtain ⟨v178, e_v178, h⟩ := letv_e h
                refine V.topI e_v178 ?_
                refine V.istore_n (lv' := [(3, .int v178), (5, .int v50), (7, .int v44), (6, .int v32), (0, rf Z 65), (2, .int a2), (4, .int a4)]) d_Mo_comesTo_178 rfl (by decide) rfl ?_
                refine V.iload d_Mo_comesTo_179 3 rfl ?_
                refine V.iconst (v := 5) d_Mo_comesTo_181 (by decide) ?_
                refine V.icmp_eq (tgt := 192) d_Mo_comesTo_182 (by decide) (fun hc182 => ?_) (fun hc182 => ?_)
                · replace h := ite_t hc182 h
                  exact V.pick [4, 5, 0, 6, 1, 3] rfl (J19b_192 _ _ _ _ (Option.some.inj h).symm)
                · replace h := ite_f hc182 h
                  refine V.iload d_Mo_comesTo_185 3 rfl ?_
                  refine V.bipush (v := 6) d_Mo_comesTo_187 (by decide) ?_
                  refine V.icmp_ne (tgt := 203) d_Mo_comesTo_189 (by decide) (fun hc189 => ?_) (fun hc189 => ?_)
                  · replace h := ite_f hc189 h
                    exact V.pick [4, 5, 0, 6, 1, 3] rfl (J19b_203 _ _ _ _ (Option.some.inj h).symm)
                  · replace h := ite_t hc189 h
                    exact V.pick [4, 5, 0, 6, 1, 3] rfl (J19b_192 _ _ _ _ (Option.some.inj h).symm)
              · replace h := ite_t hc132 h
                exact V.pick [3, 4, 5, 6, 0, 2, 1] rfl (J19b_135 _ _ _ _ (Option.some.inj h).symm)
          · replace h := ite_t hc97 h
            exact V.pick [3, 4, 5, 6, 0] rfl (J19b_100 _ _ _ _ (Option.some.inj h).symm)
        · replace h := ite_t hc60 h
          exact V.pick [3, 4, 5, 6, 0, 2, 1] rfl (J19b_63 _ _ _ _ (Option.some.inj h).symm)
def f_Mo_comesTo (N : Nat) (σ : Mem) (a1 : Int32) (a2 : Int32) : Option (Int32 × Mem) :=
  letv (260 * (a1 / 260)) fun v11 =>
  L_Mo_comesTo_l16 N a2 v11 N 0 a1 σ
set_option maxHeartbeats 4000000 in
set_option maxRecDepth 20000 in
theorem c_Mo_comesTo (Z : ZX) {N : Nat} {σ : Mem} {a1 : Int32} {a2 : Int32} {r : Int32} {σ' : Mem} (h : f_Mo_comesTo N σ a1 a2 = some (r, σ')) : CI Z 1 m_Mo_comesTo [rf Z 65, .int a1, .int a2] σ r σ' := by
  refine Ct.of (by decide +kernel) (Nat.le_of_ble_eq_true rfl) (fun Y => ?_)
  show V (mkB Z) Y m_Mo_comesTo 1 (QP (mkB Z) Y nC 0 0 (fun v t => v = some (.int r) ∧ t = σ')) 0 0 nC σ 0 [(0, rf Z 65), (1, .int a1), (2, .int a2)] []
  unfold f_Mo_comesTo at h
  refine V.iconst (v := 0) d_Mo_comesTo_0 (by decide) ?_
  refine V.istore_n (lv' := [(3, .int 0), (0, rf Z 65), (1, .int a1), (2, .int a2)]) d_Mo_comesTo_1 rfl (by decide) rfl ?_
  refine V.sipush (v := 260) d_Mo_comesTo_2 (by decide) ?_
  refine V.iload_n d_Mo_comesTo_5 rfl 2 rfl ?_
  refine V.sipush (v := 260) d_Mo_comesTo_6 (by decide) ?_
  refine V.idiv d_Mo_comesTo_9 (by decide) ?_
  refine V.imul d_Mo_comesTo_10 ?_
  obtain ⟨v11, e_v11, h⟩ := letv_e h
  refine V.topI e_v11 ?_
  refine V.istore (lv' := [(4, .int v11), (3, .int 0), (0, rf Z 65), (1, .int a1), (2, .int a2)]) d_Mo_comesTo_11 (by decide) rfl ?_
  refine V.iload_n d_Mo_comesTo_13 rfl 3 rfl ?_
  refine V.istore (lv' := [(5, .int a1), (4, .int v11), (3, .int 0), (0, rf Z 65), (1, .int a1), (2, .int a2)]) d_Mo_comesTo_14 (by decide) rfl ?_
  refine V.pick [3, 5, 2, 1, 0] rfl (cL_Mo_comesTo_l16 Z (Good := fun z => z = _) (fun r16v r16m he => ?_) N _ _ _ _ h rfl)
  · cases he
    exact ⟨rfl, rfl⟩
abbrev m_Mo_isUp : MI := (⟨"ShadeTownModel", "isUp", "(I)Z"⟩, prog_13_method_51_code, 3, (Option.some Jvm.ClassFile.FieldType.boolean))
theorem d_Mo_isUp_0 : decode prog_13_method_51_code 0 = .ok (.aload_n 0, 1) := by decide +kernel
theorem d_Mo_isUp_1 : decode prog_13_method_51_code 1 = .ok (.iload_n 1, 1) := by decide +kernel
theorem d_Mo_isUp_2 : decode prog_13_method_51_code 2 = .ok (.invokevirtual 315, 3) := by decide +kernel
theorem k_Mo_feels : MOk m_Mo_feels 1 ∧ IOk m_Mo_feels := ⟨⟨atG 1731 (by decide +kernel) rfl, atG 122 (by decide +kernel) rfl, ⟨by decide, by decide⟩, by decide +kernel, by decide⟩, atG 1730 (by decide +kernel) rfl, atG 67 (by decide +kernel) rfl⟩
theorem lk_Mo_315 : Cond.methodLink "ShadeTownModel" 315 ⟨"ShadeTownModel", "feels", "(I)V"⟩ ∈ tblG := atG 1728 (by decide +kernel) rfl
theorem d_Mo_isUp_5 : decode prog_13_method_51_code 5 = .ok (.iconst 0, 1) := by decide +kernel
theorem d_Mo_isUp_6 : decode prog_13_method_51_code 6 = .ok (.istore_n 2, 1) := by decide +kernel
theorem d_Mo_isUp_7 : decode prog_13_method_51_code 7 = .ok (.iload_n 2, 1) := by decide +kernel
theorem d_Mo_isUp_8 : decode prog_13_method_51_code 8 = .ok (.aload_n 0, 1) := by decide +kernel
theorem d_Mo_isUp_9 : decode prog_13_method_51_code 9 = .ok (.getfield 304, 3) := by decide +kernel
theorem d_Mo_isUp_15 : decode prog_13_method_51_code 15 = .ok (.aload_n 0, 1) := by decide +kernel
theorem d_Mo_isUp_16 : decode prog_13_method_51_code 16 = .ok (.getfield 53, 3) := by decide +kernel
theorem d_Mo_isUp_19 : decode prog_13_method_51_code 19 = .ok (.iload_n 2, 1) := by decide +kernel
theorem d_Mo_isUp_20 : decode prog_13_method_51_code 20 = .ok (.iaload, 1) := by decide +kernel
theorem d_Mo_isUp_21 : decode prog_13_method_51_code 21 = .ok (.bipush 117, 2) := by decide +kernel
theorem d_Mo_isUp_26 : decode prog_13_method_51_code 26 = .ok (.aload_n 0, 1) := by decide +kernel
theorem d_Mo_isUp_27 : decode prog_13_method_51_code 27 = .ok (.aload_n 0, 1) := by decide +kernel
theorem d_Mo_isUp_28 : decode prog_13_method_51_code 28 = .ok (.getfield 59, 3) := by decide +kernel
theorem d_Mo_isUp_31 : decode prog_13_method_51_code 31 = .ok (.iload_n 2, 1) := by decide +kernel
theorem d_Mo_isUp_32 : decode prog_13_method_51_code 32 = .ok (.iaload, 1) := by decide +kernel
theorem d_Mo_isUp_33 : decode prog_13_method_51_code 33 = .ok (.aload_n 0, 1) := by decide +kernel
theorem d_Mo_isUp_34 : decode prog_13_method_51_code 34 = .ok (.getfield 62, 3) := by decide +kernel
theorem d_Mo_isUp_37 : decode prog_13_method_51_code 37 = .ok (.iload_n 2, 1) := by decide +kernel
theorem d_Mo_isUp_38 : decode prog_13_method_51_code 38 = .ok (.iaload, 1) := by decide +kernel
theorem d_Mo_isUp_39 : decode prog_13_method_51_code 39 = .ok (.invokevirtual 311, 3) := by decide +kernel
theorem k_Mo_comesTo : MOk m_Mo_comesTo 2 ∧ IOk m_Mo_comesTo := ⟨⟨atG 1735 (by decide +kernel) rfl, atG 122 (by decide +kernel) rfl, ⟨by decide, by decide⟩, by decide +kernel, by decide⟩, atG 1734 (by decide +kernel) rfl, atG 68 (by decide +kernel) rfl⟩
theorem lk_Mo_311 : Cond.methodLink "ShadeTownModel" 311 ⟨"ShadeTownModel", "comesTo", "(II)I"⟩ ∈ tblG := atG 1732 (by decide +kernel) rfl
theorem d_Mo_isUp_42 : decode prog_13_method_51_code 42 = .ok (.iconst 1, 1) := by decide +kernel
theorem d_Mo_isUp_43 : decode prog_13_method_51_code 43 = .ok (.if_icmp .ne 5, 3) := by decide +kernel
theorem d_Mo_isUp_23 : decode prog_13_method_51_code 23 = .ok (.if_icmp .ne 25, 3) := by decide +kernel
theorem d_Mo_isUp_12 : decode prog_13_method_51_code 12 = .ok (.if_icmp .ge 42, 3) := by decide +kernel
theorem d_Mo_isUp_54 : decode prog_13_method_51_code 54 = .ok (.iconst 0, 1) := by decide +kernel
theorem d_Mo_isUp_55 : decode prog_13_method_51_code 55 = .ok (.ireturn, 1) := by decide +kernel
theorem d_Mo_isUp_48 : decode prog_13_method_51_code 48 = .ok (.iinc 2 1, 3) := by decide +kernel
theorem d_Mo_isUp_51 : decode prog_13_method_51_code 51 = .ok (.goto (-44), 3) := by decide +kernel
theorem d_Mo_isUp_46 : decode prog_13_method_51_code 46 = .ok (.iconst 1, 1) := by decide +kernel
theorem d_Mo_isUp_47 : decode prog_13_method_51_code 47 = .ok (.ireturn, 1) := by decide +kernel
def B_Mo_isUp_l7 (N : Nat) (rec : Int32 → Mem → Option (Int32 × Mem)) (x2 : Int32) (σ : Mem) : Option (Int32 × Mem) :=
  bnd1 ((
    if (mI σ 65 20) ≤ x2 then
      (some (0, σ))
    else
      (grd (inb x2 16) <|
      if (mI σ 80 (x2.toNatClampNeg)) = 117 then
        (grd (inb x2 16) <|
        grd (inb x2 16) <|
        bnd2 (f_Mo_comesTo N σ (mI σ 82 (x2.toNatClampNeg)) (mI σ 83 (x2.toNatClampNeg))) fun r39 σ39 =>
        if r39 = 1 then
          (some (2, σ39))
        else
          (some (1, σ39)))
      else
        (some (1, σ)))) : Option (Nat × Mem)) fun s12b =>
  q2 s12b fun t12b σ12b_ =>
  if t12b = 0 then
    (some (0, σ12b_))
  else
  if t12b = 1 then
    (letv (x2 + 1) fun v48 =>
    rec v48 σ12b_)
  else
  (some (1, σ12b_))
def L_Mo_isUp_l7 (N : Nat) : Nat → Int32 → Mem → Option (Int32 × Mem)
  | 0, _, _ => none
  | k + 1, x2, σ => B_Mo_isUp_l7 N (L_Mo_isUp_l7 N k) x2 σ
set_option maxHeartbeats 4000000 in
set_option maxRecDepth 20000 in
theorem cL_Mo_isUp_l7 (Z : ZX) {Y : YX} {post : Option Value → Mem → Prop} {N : Nat} {Good : Int32 × Mem → Prop} (hR : ∀ (v : Int32) (σr : Mem), Good (v, σr) → post (some (.int v)) σr) : ∀ (k : Nat) (x2 : Int32) (σ : Mem) (res : Int32 × Mem), L_Mo_isUp_l7 N k x2 σ = some res → Good res → V (mkB Z) Y m_Mo_isUp 2 (QP (mkB Z) Y nC 0 0 post) 0 0 nC σ 7 [(0, rf Z 65), (2, .int x2)] [] := by
  intro k
  induction k with
  | zero => intro x2 σ res h; cases h
  | succ k ih =>
    intro x2 σ res h hg
    replace h : B_Mo_isUp_l7 N (L_Mo_isUp_l7 N k) x2 σ = some res := h
    unfold B_Mo_isUp_l7 at h
    refine V.iload_n d_Mo_isUp_7 rfl 1 rfl ?_
    refine V.aload_n d_Mo_isUp_8 rfl 0 rfl ?_
    refine V.getI ok_Mo fl_Mo_304 (by decide) (by decide) ly_65 rfl d_Mo_isUp_9 ?_
    obtain ⟨s12b, h1, h⟩ := bnd1_e h
    have J12b_54 : ∀ (σ12b_ : Mem), s12b = (0, σ12b_) → V (mkB Z) Y m_Mo_isUp 2 (QP (mkB Z) Y nC 0 0 post) 0 0 nC σ12b_ 54 [] [] := by
      intro σ12b_ he
      rw [he] at h
      replace h := q2_e h
      replace h := ite_t rfl h
      refine V.iconst (v := 0) d_Mo_isUp_54 (by decide) ?_
      cases h
      exact V.zret rfl rfl d_Mo_isUp_55 (hR _ _ hg)
    have J12b_48 : ∀ (σ12b_ : Mem), s12b = (1, σ12b_) → V (mkB Z) Y m_Mo_isUp 2 (QP (mkB Z) Y nC 0 0 post) 0 0 nC σ12b_ 48 [(0, rf Z 65), (2, .int x2)] [] := by
      intro σ12b_ he
      rw [he] at h
      replace h := q2_e h
      replace h := ite_f (by decide) h
      replace h := ite_t rfl h
      obtain ⟨v48, e_v48, h⟩ := letv_e h
      refine V.iinc (v := v48) (lv' := [(2, .int v48), (0, rf Z 65)]) d_Mo_isUp_48 1 rfl (by rw [e_v48]; rfl) (by decide) rfl ?_
      refine V.goto (tgt := 7) d_Mo_isUp_51 (by decide) ?_
      exact V.pick [1, 0] rfl (ih _ _ _ h hg)
    have J12b_46 : ∀ (σ12b_ : Mem), s12b = (2, σ12b_) → V (mkB Z) Y m_Mo_isUp 2 (QP (mkB Z) Y nC 0 0 post) 0 0 nC σ12b_ 46 [] [] := by
      intro σ12b_ he
      rw [he] at h
      replace h := q2_e h
      replace h := ite_f (by decide) h
      replace h := ite_f (by decide) h
      refine V.iconst (v := 1) d_Mo_isUp_46 (by decide) ?_
      cases h
      exact V.zret rfl rfl d_Mo_isUp_47 (hR _ _ hg)
    replace h := h1
    refine V.icmp_ge (tgt := 54) d_Mo_isUp_12 (by decide) (fun hc12 => ?_) (fun hc12 => ?_)
    · replace h := ite_t hc12 h
      exact V.pick [] rfl (J12b_54 _ (Option.some.inj h).symm)
    · replace h := ite_f hc12 h
      refine V.aload_n d_Mo_isUp_15 rfl 0 rfl ?_
      refine V.getR (r := 80) ok_Mo fl_Mo_53 (by decide) (by decide) ly_65 rfl d_Mo_isUp_16 ?_
      refine V.iload_n d_Mo_isUp_19 rfl 1 rfl ?_
      obtain ⟨gq, h⟩ := grd_e h
      refine V.ra (by decide) ly_80 (inb_e gq) rfl d_Mo_isUp_20 ?_
      refine V.bipush (v := 117) d_Mo_isUp_21 (by decide) ?_
      refine V.icmp_ne (tgt := 48) d_Mo_isUp_23 (by decide) (fun hc23 => ?_) (fun hc23 => ?_)
      · replace h := ite_f hc23 h
        exact V.pick [0, 1] rfl (J12b_48 _ (Option.some.inj h).symm)
      · replace h := ite_t hc23 h
        refine V.aload_n d_Mo_isUp_26 rfl 0 rfl ?_
        refine V.aload_n d_Mo_isUp_27 rfl 0 rfl ?_
        refine V.getR (r := 82) ok_Mo fl_Mo_59 (by decide) (by decide) ly_65 rfl d_Mo_isUp_28 ?_
        refine V.iload_n d_Mo_isUp_31 rfl 1 rfl ?_
        obtain ⟨gq, h⟩ := grd_e h
        refine V.ra (by decide) ly_82 (inb_e gq) rfl d_Mo_isUp_32 ?_
        refine V.aload_n d_Mo_isUp_33 rfl 0 rfl ?_
        refine V.getR (r := 83) ok_Mo fl_Mo_62 (by decide) (by decide) ly_65 rfl d_Mo_isUp_34 ?_
        refine V.iload_n d_Mo_isUp_37 rfl 1 rfl ?_
        obtain ⟨gq, h⟩ := grd_e h
        refine V.ra (by decide) ly_83 (inb_e gq) rfl d_Mo_isUp_38 ?_
        obtain ⟨r39, σ39, h1, h⟩ := bnd2_e h
        refine V.vI (as := [.int (mI σ 82 (x2.toNatClampNeg)), .int (mI σ 83 (x2.toNatClampNeg))]) (st := []) (c_Mo_comesTo Z h1) k_Mo_comesTo lk_Mo_311 (by decide) rfl (by decide) ly_65 ok_Mo.1 rfl (Nat.le_of_ble_eq_true rfl) d_Mo_isUp_39 ?_
        refine V.iconst (v := 1) d_Mo_isUp_42 (by decide) ?_
        refine V.icmp_ne (tgt := 48) d_Mo_isUp_43 (by decide) (fun hc43 => ?_) (fun hc43 => ?_)
        · replace h := ite_f hc43 h
          exact V.pick [0, 1] rfl (J12b_48 _ (Option.some.inj h).symm)
        · replace h := ite_t hc43 h
          exact V.pick [] rfl (J12b_46 _ (Option.some.inj h).symm)
def f_Mo_isUp (N : Nat) (σ : Mem) (a1 : Int32) : Option (Int32 × Mem) :=
  bnd1 (f_Mo_feels N σ a1) fun σ2 =>
  L_Mo_isUp_l7 N N 0 σ2
set_option maxHeartbeats 4000000 in
set_option maxRecDepth 20000 in
theorem c_Mo_isUp (Z : ZX) {N : Nat} {σ : Mem} {a1 : Int32} {r : Int32} {σ' : Mem} (h : f_Mo_isUp N σ a1 = some (r, σ')) : CI Z 2 m_Mo_isUp [rf Z 65, .int a1] σ r σ' := by
  refine Ct.of (by decide +kernel) (Nat.le_of_ble_eq_true rfl) (fun Y => ?_)
  show V (mkB Z) Y m_Mo_isUp 2 (QP (mkB Z) Y nC 0 0 (fun v t => v = some (.int r) ∧ t = σ')) 0 0 nC σ 0 [(0, rf Z 65), (1, .int a1)] []
  unfold f_Mo_isUp at h
  refine V.aload_n d_Mo_isUp_0 rfl 0 rfl ?_
  refine V.iload_n d_Mo_isUp_1 rfl 1 rfl ?_
  obtain ⟨σ2, h1, h⟩ := bnd1_e h
  refine V.vN (as := [.int a1]) (st := []) (c_Mo_feels Z h1) k_Mo_feels lk_Mo_315 (by decide) rfl (by decide) ly_65 ok_Mo.1 rfl (Nat.le_of_ble_eq_true rfl) d_Mo_isUp_2 ?_
  refine V.iconst (v := 0) d_Mo_isUp_5 (by decide) ?_
  refine V.istore_n (lv' := [(2, .int 0), (0, rf Z 65), (1, .int a1)]) d_Mo_isUp_6 rfl (by decide) rfl ?_
  refine V.pick [1, 0] rfl (cL_Mo_isUp_l7 Z (Good := fun z => z = _) (fun r7v r7m he => ?_) N _ _ _ h rfl)
  · cases he
    exact ⟨rfl, rfl⟩
abbrev m_Mo_byLaw : MI := (⟨"ShadeTownModel", "byLaw", "(III)I"⟩, prog_13_method_49_code, 6, (Option.some Jvm.ClassFile.FieldType.int))
theorem d_Mo_byLaw_0 : decode prog_13_method_49_code 0 = .ok (.iconst 0, 1) := by decide +kernel
theorem d_Mo_byLaw_1 : decode prog_13_method_49_code 1 = .ok (.istore 4, 2) := by decide +kernel
theorem d_Mo_byLaw_3 : decode prog_13_method_49_code 3 = .ok (.iload 4, 2) := by decide +kernel
theorem d_Mo_byLaw_5 : decode prog_13_method_49_code 5 = .ok (.aload_n 0, 1) := by decide +kernel
theorem d_Mo_byLaw_6 : decode prog_13_method_49_code 6 = .ok (.getfield 304, 3) := by decide +kernel
theorem d_Mo_byLaw_12 : decode prog_13_method_49_code 12 = .ok (.aload_n 0, 1) := by decide +kernel
theorem d_Mo_byLaw_13 : decode prog_13_method_49_code 13 = .ok (.getfield 53, 3) := by decide +kernel
theorem d_Mo_byLaw_16 : decode prog_13_method_49_code 16 = .ok (.iload 4, 2) := by decide +kernel
theorem d_Mo_byLaw_18 : decode prog_13_method_49_code 18 = .ok (.iaload, 1) := by decide +kernel
theorem d_Mo_byLaw_19 : decode prog_13_method_49_code 19 = .ok (.iload_n 1, 1) := by decide +kernel
theorem d_Mo_byLaw_23 : decode prog_13_method_49_code 23 = .ok (.aload_n 0, 1) := by decide +kernel
theorem d_Mo_byLaw_24 : decode prog_13_method_49_code 24 = .ok (.aload_n 0, 1) := by decide +kernel
theorem d_Mo_byLaw_25 : decode prog_13_method_49_code 25 = .ok (.getfield 59, 3) := by decide +kernel
theorem d_Mo_byLaw_28 : decode prog_13_method_49_code 28 = .ok (.iload 4, 2) := by decide +kernel
theorem d_Mo_byLaw_30 : decode prog_13_method_49_code 30 = .ok (.iaload, 1) := by decide +kernel
theorem d_Mo_byLaw_31 : decode prog_13_method_49_code 31 = .ok (.aload_n 0, 1) := by decide +kernel
theorem d_Mo_byLaw_32 : decode prog_13_method_49_code 32 = .ok (.getfield 62, 3) := by decide +kernel
theorem d_Mo_byLaw_35 : decode prog_13_method_49_code 35 = .ok (.iload 4, 2) := by decide +kernel
theorem d_Mo_byLaw_37 : decode prog_13_method_49_code 37 = .ok (.iaload, 1) := by decide +kernel
theorem d_Mo_byLaw_38 : decode prog_13_method_49_code 38 = .ok (.invokevirtual 311, 3) := by decide +kernel
theorem d_Mo_byLaw_41 : decode prog_13_method_49_code 41 = .ok (.iconst 1, 1) := by decide +kernel
theorem d_Mo_byLaw_45 : decode prog_13_method_49_code 45 = .ok (.goto 46, 3) := by decide +kernel
theorem d_Mo_byLaw_42 : decode prog_13_method_49_code 42 = .ok (.if_icmp .eq 6, 3) := by decide +kernel
theorem d_Mo_byLaw_20 : decode prog_13_method_49_code 20 = .ok (.if_icmp .ne 71, 3) := by decide +kernel
theorem d_Mo_byLaw_9 : decode prog_13_method_49_code 9 = .ok (.if_icmp .ge 88, 3) := by decide +kernel
theorem d_Mo_byLaw_97 : decode prog_13_method_49_code 97 = .ok (.iconst 0, 1) := by decide +kernel
theorem d_Mo_byLaw_98 : decode prog_13_method_49_code 98 = .ok (.ireturn, 1) := by decide +kernel
theorem d_Mo_byLaw_91 : decode prog_13_method_49_code 91 = .ok (.iinc 4 1, 3) := by decide +kernel
theorem d_Mo_byLaw_94 : decode prog_13_method_49_code 94 = .ok (.goto (-91), 3) := by decide +kernel
theorem d_Mo_byLaw_48 : decode prog_13_method_49_code 48 = .ok (.aload_n 0, 1) := by decide +kernel
theorem d_Mo_byLaw_49 : decode prog_13_method_49_code 49 = .ok (.aload_n 0, 1) := by decide +kernel
theorem d_Mo_byLaw_50 : decode prog_13_method_49_code 50 = .ok (.getfield 56, 3) := by decide +kernel
theorem d_Mo_byLaw_53 : decode prog_13_method_49_code 53 = .ok (.iload 4, 2) := by decide +kernel
theorem d_Mo_byLaw_55 : decode prog_13_method_49_code 55 = .ok (.iaload, 1) := by decide +kernel
theorem d_Mo_byLaw_56 : decode prog_13_method_49_code 56 = .ok (.aload_n 0, 1) := by decide +kernel
theorem d_Mo_byLaw_57 : decode prog_13_method_49_code 57 = .ok (.getfield 59, 3) := by decide +kernel
theorem d_Mo_byLaw_60 : decode prog_13_method_49_code 60 = .ok (.iload 4, 2) := by decide +kernel
theorem d_Mo_byLaw_62 : decode prog_13_method_49_code 62 = .ok (.iaload, 1) := by decide +kernel
theorem d_Mo_byLaw_63 : decode prog_13_method_49_code 63 = .ok (.invokevirtual 311, 3) := by decide +kernel
theorem d_Mo_byLaw_66 : decode prog_13_method_49_code 66 = .ok (.istore 5, 2) := by decide +kernel
theorem d_Mo_byLaw_68 : decode prog_13_method_49_code 68 = .ok (.iload 5, 2) := by decide +kernel
theorem d_Mo_byLaw_70 : decode prog_13_method_49_code 70 = .ok (.iload_n 2, 1) := by decide +kernel
theorem d_Mo_byLaw_78 : decode prog_13_method_49_code 78 = .ok (.iload 5, 2) := by decide +kernel
theorem d_Mo_byLaw_80 : decode prog_13_method_49_code 80 = .ok (.iload_n 3, 1) := by decide +kernel
theorem d_Mo_byLaw_88 : decode prog_13_method_49_code 88 = .ok (.iload 5, 2) := by decide +kernel
theorem d_Mo_byLaw_90 : decode prog_13_method_49_code 90 = .ok (.ireturn, 1) := by decide +kernel
theorem d_Mo_byLaw_84 : decode prog_13_method_49_code 84 = .ok (.iload_n 3, 1) := by decide +kernel
theorem d_Mo_byLaw_85 : decode prog_13_method_49_code 85 = .ok (.goto 5, 3) := by decide +kernel
theorem d_Mo_byLaw_81 : decode prog_13_method_49_code 81 = .ok (.if_icmp .le 7, 3) := by decide +kernel
theorem d_Mo_byLaw_74 : decode prog_13_method_49_code 74 = .ok (.iload_n 2, 1) := by decide +kernel
theorem d_Mo_byLaw_75 : decode prog_13_method_49_code 75 = .ok (.goto 15, 3) := by decide +kernel
theorem d_Mo_byLaw_71 : decode prog_13_method_49_code 71 = .ok (.if_icmp .ge 7, 3) := by decide +kernel
def B_Mo_byLaw_l3 (N : Nat) (a1 : Int32) (a2 : Int32) (a3 : Int32) (rec : Int32 → Mem → Option ((Int32 × Mem) ⊕ (Int32 × Mem))) (x4 : Int32) (σ : Mem) : Option ((Int32 × Mem) ⊕ (Int32 × Mem)) :=
  bnd1 ((
    if (mI σ 65 20) ≤ x4 then
      (some (0, σ))
    else
      (grd (inb x4 16) <|
      if (mI σ 80 (x4.toNatClampNeg)) = a1 then
        (grd (inb x4 16) <|
        grd (inb x4 16) <|
        bnd2 (f_Mo_comesTo N σ (mI σ 82 (x4.toNatClampNeg)) (mI σ 83 (x4.toNatClampNeg))) fun r38 σ38 =>
        if r38 = 1 then
          (some (2, σ38))
        else
          (some (1, σ38)))
      else
        (some (1, σ)))) : Option (Nat × Mem)) fun s9b =>
  q2 s9b fun t9b σ9b_ =>
  if t9b = 0 then
    (some (.inl (0, σ9b_)))
  else
  if t9b = 1 then
    (letv (x4 + 1) fun v91 =>
    rec v91 σ9b_)
  else
  (some (.inr (x4, σ9b_)))
def L_Mo_byLaw_l3 (N : Nat) (a1 : Int32) (a2 : Int32) (a3 : Int32) : Nat → Int32 → Mem → Option ((Int32 × Mem) ⊕ (Int32 × Mem))
  | 0, _, _ => none
  | k + 1, x4, σ => B_Mo_byLaw_l3 N a1 a2 a3 (L_Mo_byLaw_l3 N a1 a2 a3 k) x4 σ
set_option maxHeartbeats 4000000 in
set_option maxRecDepth 20000 in
theorem cL_Mo_byLaw_l3 (Z : ZX) {Y : YX} {post : Option Value → Mem → Prop} {N : Nat} {a1 : Int32} {a2 : Int32} {a3 : Int32} {Good : (Int32 × Mem) ⊕ (Int32 × Mem) → Prop} (hE : ∀ (o4 : Int32) (σe : Mem), Good (.inr (o4, σe)) → V (mkB Z) Y m_Mo_byLaw 2 (QP (mkB Z) Y nC 0 0 post) 0 0 nC σe 48 [(0, rf Z 65), (2, .int a2), (3, .int a3), (4, .int o4)] []) (hR : ∀ (v : Int32) (σr : Mem), Good (.inl (v, σr)) → post (some (.int v)) σr) : ∀ (k : Nat) (x4 : Int32) (σ : Mem) (res : (Int32 × Mem) ⊕ (Int32 × Mem)), L_Mo_byLaw_l3 N a1 a2 a3 k x4 σ = some res → Good res → V (mkB Z) Y m_Mo_byLaw 2 (QP (mkB Z) Y nC 0 0 post) 0 0 nC σ 3 [(0, rf Z 65), (1, .int a1), (2, .int a2), (3, .int a3), (4, .int x4)] [] := by
  intro k
  induction k with
  | zero => intro x4 σ res h; cases h
  | succ k ih =>
    intro x4 σ res h hg
    replace h : B_Mo_byLaw_l3 N a1 a2 a3 (L_Mo_byLaw_l3 N a1 a2 a3 k) x4 σ = some res := h
    unfold B_Mo_byLaw_l3 at h
    refine V.iload d_Mo_byLaw_3 4 rfl ?_
    refine V.aload_n d_Mo_byLaw_5 rfl 0 rfl ?_
    refine V.getI ok_Mo fl_Mo_304 (by decide) (by decide) ly_65 rfl d_Mo_byLaw_6 ?_
    obtain ⟨s9b, h1, h⟩ := bnd1_e h
    have J9b_97 : ∀ (σ9b_ : Mem), s9b = (0, σ9b_) → V (mkB Z) Y m_Mo_byLaw 2 (QP (mkB Z) Y nC 0 0 post) 0 0 nC σ9b_ 97 [] [] := by
      intro σ9b_ he
      rw [he] at h
      replace h := q2_e h
      replace h := ite_t rfl h
      refine V.iconst (v := 0) d_Mo_byLaw_97 (by decide) ?_
      cases h
      exact V.iret rfl d_Mo_byLaw_98 (hR _ _ hg)
    have J9b_91 : ∀ (σ9b_ : Mem), s9b = (1, σ9b_) → V (mkB Z) Y m_Mo_byLaw 2 (QP (mkB Z) Y nC 0 0 post) 0 0 nC σ9b_ 91 [(0, rf Z 65), (1, .int a1), (2, .int a2), (3, .int a3), (4, .int x4)] [] := by
      intro σ9b_ he
      rw [he] at h
      replace h := q2_e h
      replace h := ite_f (by decide) h
      replace h := ite_t rfl h
      obtain ⟨v91, e_v91, h⟩ := letv_e h
      refine V.iinc (v := v91) (lv' := [(4, .int v91), (0, rf Z 65), (1, .int a1), (2, .int a2), (3, .int a3)]) d_Mo_byLaw_91 4 rfl (by rw [e_v91]; rfl) (by decide) rfl ?_
      refine V.goto (tgt := 3) d_Mo_byLaw_94 (by decide) ?_
      exact V.pick [1, 2, 3, 4, 0] rfl (ih _ _ _ h hg)
    have J9b_48 : ∀ (σ9b_ : Mem), s9b = (2, σ9b_) → V (mkB Z) Y m_Mo_byLaw 2 (QP (mkB Z) Y nC 0 0 post) 0 0 nC σ9b_ 48 [(0, rf Z 65), (2, .int a2), (3, .int a3), (4, .int x4)] [] := by
      intro σ9b_ he
      rw [he] at h
      replace h := q2_e h
      replace h := ite_f (by decide) h
      replace h := ite_f (by decide) h
      cases h
      exact V.pick [0, 1, 2, 3] rfl (hE _ _ hg)
    replace h := h1
    refine V.icmp_ge (tgt := 97) d_Mo_byLaw_9 (by decide) (fun hc9 => ?_) (fun hc9 => ?_)
    · replace h := ite_t hc9 h
      exact V.pick [] rfl (J9b_97 _ (Option.some.inj h).symm)
    · replace h := ite_f hc9 h
      refine V.aload_n d_Mo_byLaw_12 rfl 0 rfl ?_
      refine V.getR (r := 80) ok_Mo fl_Mo_53 (by decide) (by decide) ly_65 rfl d_Mo_byLaw_13 ?_
      refine V.iload d_Mo_byLaw_16 4 rfl ?_
      obtain ⟨gq, h⟩ := grd_e h
      refine V.ra (by decide) ly_80 (inb_e gq) rfl d_Mo_byLaw_18 ?_
      refine V.iload_n d_Mo_byLaw_19 rfl 1 rfl ?_
      refine V.icmp_ne (tgt := 91) d_Mo_byLaw_20 (by decide) (fun hc20 => ?_) (fun hc20 => ?_)
      · replace h := ite_f hc20 h
        exact V.pick [0, 1, 2, 3, 4] rfl (J9b_91 _ (Option.some.inj h).symm)
      · replace h := ite_t hc20 h
        refine V.aload_n d_Mo_byLaw_23 rfl 0 rfl ?_
        refine V.aload_n d_Mo_byLaw_24 rfl 0 rfl ?_
        refine V.getR (r := 82) ok_Mo fl_Mo_59 (by decide) (by decide) ly_65 rfl d_Mo_byLaw_25 ?_
        refine V.iload d_Mo_byLaw_28 4 rfl ?_
        obtain ⟨gq, h⟩ := grd_e h
        refine V.ra (by decide) ly_82 (inb_e gq) rfl d_Mo_byLaw_30 ?_
        refine V.aload_n d_Mo_byLaw_31 rfl 0 rfl ?_
        refine V.getR (r := 83) ok_Mo fl_Mo_62 (by decide) (by decide) ly_65 rfl d_Mo_byLaw_32 ?_
        refine V.iload d_Mo_byLaw_35 4 rfl ?_
        obtain ⟨gq, h⟩ := grd_e h
        refine V.ra (by decide) ly_83 (inb_e gq) rfl d_Mo_byLaw_37 ?_
        obtain ⟨r38, σ38, h1, h⟩ := bnd2_e h
        refine V.vI (as := [.int (mI σ 82 (x4.toNatClampNeg)), .int (mI σ 83 (x4.toNatClampNeg))]) (st := []) (c_Mo_comesTo Z h1) k_Mo_comesTo lk_Mo_311 (by decide) rfl (by decide) ly_65 ok_Mo.1 rfl (Nat.le_of_ble_eq_true rfl) d_Mo_byLaw_38 ?_
        refine V.iconst (v := 1) d_Mo_byLaw_41 (by decide) ?_
        refine V.icmp_eq (tgt := 48) d_Mo_byLaw_42 (by decide) (fun hc42 => ?_) (fun hc42 => ?_)
        · replace h := ite_t hc42 h
          exact V.pick [0, 2, 3, 4] rfl (J9b_48 _ (Option.some.inj h).symm)
        · replace h := ite_f hc42 h
          refine V.goto (tgt := 91) d_Mo_byLaw_45 (by decide) ?_
          exact V.pick [0, 1, 2, 3, 4] rfl (J9b_91 _ (Option.some.inj h).symm)
def f_Mo_byLaw (N : Nat) (σ : Mem) (a1 : Int32) (a2 : Int32) (a3 : Int32) : Option (Int32 × Mem) :=
  bnd1 (L_Mo_byLaw_l3 N a1 a2 a3 N 0 σ) fun x3_ =>
  sm x3_ (fun r3_ => some r3_) fun e3 =>
  q2 e3 fun z3_4 σ3_ =>
  grd (inb z3_4 16) <|
  grd (inb z3_4 16) <|
  bnd2 (f_Mo_comesTo N σ3_ (mI σ3_ 81 (z3_4.toNatClampNeg)) (mI σ3_ 82 (z3_4.toNatClampNeg))) fun r63 σ63 =>
  if a2 ≤ r63 then
    (if r63 ≤ a3 then
      (some (r63, σ63))
    else
      (some (a3, σ63)))
  else
    (some (a2, σ63))
set_option maxHeartbeats 4000000 in
set_option maxRecDepth 20000 in
theorem c_Mo_byLaw (Z : ZX) {N : Nat} {σ : Mem} {a1 : Int32} {a2 : Int32} {a3 : Int32} {r : Int32} {σ' : Mem} (h : f_Mo_byLaw N σ a1 a2 a3 = some (r, σ')) : CI Z 2 m_Mo_byLaw [rf Z 65, .int a1, .int a2, .int a3] σ r σ' := by
  refine Ct.of (by decide +kernel) (Nat.le_of_ble_eq_true rfl) (fun Y => ?_)
  show V (mkB Z) Y m_Mo_byLaw 2 (QP (mkB Z) Y nC 0 0 (fun v t => v = some (.int r) ∧ t = σ')) 0 0 nC σ 0 [(0, rf Z 65), (1, .int a1), (2, .int a2), (3, .int a3)] []
  unfold f_Mo_byLaw at h
  refine V.iconst (v := 0) d_Mo_byLaw_0 (by decide) ?_
  refine V.istore (lv' := [(4, .int 0), (0, rf Z 65), (1, .int a1), (2, .int a2), (3, .int a3)]) d_Mo_byLaw_1 (by decide) rfl ?_
  obtain ⟨x3_, h1, h⟩ := bnd1_e h
  refine V.pick [1, 2, 3, 4, 0] rfl (cL_Mo_byLaw_l3 Z (Good := fun z => x3_ = z) (fun z3_4 σ3_ he => ?_) (fun r3v r3m he => ?_) N _ _ _ h1 rfl)
  · rw [he] at h
    replace h := sm_r h
    replace h := q2_e h
    refine V.aload_n d_Mo_byLaw_48 rfl 0 rfl ?_
    refine V.aload_n d_Mo_byLaw_49 rfl 0 rfl ?_
    refine V.getR (r := 81) ok_Mo fl_Mo_56 (by decide) (by decide) ly_65 rfl d_Mo_byLaw_50 ?_
    refine V.iload d_Mo_byLaw_53 3 rfl ?_
    obtain ⟨gq, h⟩ := grd_e h
    refine V.ra (by decide) ly_81 (inb_e gq) rfl d_Mo_byLaw_55 ?_
    refine V.aload_n d_Mo_byLaw_56 rfl 0 rfl ?_
    refine V.getR (r := 82) ok_Mo fl_Mo_59 (by decide) (by decide) ly_65 rfl d_Mo_byLaw_57 ?_
    refine V.iload d_Mo_byLaw_60 3 rfl ?_
    obtain ⟨gq, h⟩ := grd_e h
    refine V.ra (by decide) ly_82 (inb_e gq) rfl d_Mo_byLaw_62 ?_
    obtain ⟨r63, σ63, h1, h⟩ := bnd2_e h
    refine V.vI (as := [.int (mI σ3_ 81 (z3_4.toNatClampNeg)), .int (mI σ3_ 82 (z3_4.toNatClampNeg))]) (st := []) (c_Mo_comesTo Z h1) k_Mo_comesTo lk_Mo_311 (by decide) rfl (by decide) ly_65 ok_Mo.1 rfl (Nat.le_of_ble_eq_true rfl) d_Mo_byLaw_63 ?_
    refine V.istore (lv' := [(5, .int r63), (0, rf Z 65), (2, .int a2), (3, .int a3), (4, .int z3_4)]) d_Mo_byLaw_66 (by decide) rfl ?_
    refine V.iload d_Mo_byLaw_68 0 rfl ?_
    refine V.iload_n d_Mo_byLaw_70 rfl 2 rfl ?_
    refine V.icmp_ge (tgt := 78) d_Mo_byLaw_71 (by decide) (fun hc71 => ?_) (fun hc71 => ?_)
    · replace h := ite_t hc71 h
      refine V.iload d_Mo_byLaw_78 0 rfl ?_
      refine V.iload_n d_Mo_byLaw_80 rfl 3 rfl ?_
      refine V.icmp_le (tgt := 88) d_Mo_byLaw_81 (by decide) (fun hc81 => ?_) (fun hc81 => ?_)
      · replace h := ite_t hc81 h
        refine V.iload d_Mo_byLaw_88 0 rfl ?_
        cases h
        exact V.iret rfl d_Mo_byLaw_90 ⟨rfl, rfl⟩
      · replace h := ite_f hc81 h
        refine V.iload_n d_Mo_byLaw_84 rfl 3 rfl ?_
        refine V.goto (tgt := 90) d_Mo_byLaw_85 (by decide) ?_
        cases h
        exact V.iret rfl d_Mo_byLaw_90 ⟨rfl, rfl⟩
    · replace h := ite_f hc71 h
      refine V.iload_n d_Mo_byLaw_74 rfl 2 rfl ?_
      refine V.goto (tgt := 90) d_Mo_byLaw_75 (by decide) ?_
      cases h
      exact V.iret rfl d_Mo_byLaw_90 ⟨rfl, rfl⟩
  · rw [he] at h
    replace h := sm_l h
    cases h
    exact ⟨rfl, rfl⟩
abbrev m_Mo_eastOf : MI := (⟨"ShadeTownModel", "eastOf", "(I)I"⟩, prog_13_method_52_code, 2, (Option.some Jvm.ClassFile.FieldType.int))
theorem d_Mo_eastOf_0 : decode prog_13_method_52_code 0 = .ok (.aload_n 0, 1) := by decide +kernel
theorem d_Mo_eastOf_1 : decode prog_13_method_52_code 1 = .ok (.iload_n 1, 1) := by decide +kernel
theorem d_Mo_eastOf_2 : decode prog_13_method_52_code 2 = .ok (.invokevirtual 315, 3) := by decide +kernel
theorem d_Mo_eastOf_5 : decode prog_13_method_52_code 5 = .ok (.aload_n 0, 1) := by decide +kernel
theorem d_Mo_eastOf_6 : decode prog_13_method_52_code 6 = .ok (.bipush 101, 2) := by decide +kernel
theorem d_Mo_eastOf_8 : decode prog_13_method_52_code 8 = .ok (.bipush (-9), 2) := by decide +kernel
theorem d_Mo_eastOf_10 : decode prog_13_method_52_code 10 = .ok (.bipush 9, 2) := by decide +kernel
theorem d_Mo_eastOf_12 : decode prog_13_method_52_code 12 = .ok (.invokevirtual 318, 3) := by decide +kernel
theorem k_Mo_byLaw : MOk m_Mo_byLaw 3 ∧ IOk m_Mo_byLaw := ⟨⟨atG 1746 (by decide +kernel) rfl, atG 122 (by decide +kernel) rfl, ⟨by decide, by decide⟩, by decide +kernel, by decide⟩, atG 1745 (by decide +kernel) rfl, atG 70 (by decide +kernel) rfl⟩
theorem lk_Mo_318 : Cond.methodLink "ShadeTownModel" 318 ⟨"ShadeTownModel", "byLaw", "(III)I"⟩ ∈ tblG := atG 1743 (by decide +kernel) rfl
theorem d_Mo_eastOf_15 : decode prog_13_method_52_code 15 = .ok (.ireturn, 1) := by decide +kernel
def f_Mo_eastOf (N : Nat) (σ : Mem) (a1 : Int32) : Option (Int32 × Mem) :=
  bnd1 (f_Mo_feels N σ a1) fun σ2 =>
  bnd2 (f_Mo_byLaw N σ2 101 (-9) 9) fun r12 σ12 =>
  some (r12, σ12)
set_option maxHeartbeats 4000000 in
set_option maxRecDepth 20000 in
theorem c_Mo_eastOf (Z : ZX) {N : Nat} {σ : Mem} {a1 : Int32} {r : Int32} {σ' : Mem} (h : f_Mo_eastOf N σ a1 = some (r, σ')) : CI Z 3 m_Mo_eastOf [rf Z 65, .int a1] σ r σ' := by
  refine Ct.of (by decide +kernel) (Nat.le_of_ble_eq_true rfl) (fun Y => ?_)
  show V (mkB Z) Y m_Mo_eastOf 3 (QP (mkB Z) Y nC 0 0 (fun v t => v = some (.int r) ∧ t = σ')) 0 0 nC σ 0 [(0, rf Z 65), (1, .int a1)] []
  unfold f_Mo_eastOf at h
  refine V.aload_n d_Mo_eastOf_0 rfl 0 rfl ?_
  refine V.iload_n d_Mo_eastOf_1 rfl 1 rfl ?_
  obtain ⟨σ2, h1, h⟩ := bnd1_e h
  refine V.vN (as := [.int a1]) (st := []) (c_Mo_feels Z h1) k_Mo_feels lk_Mo_315 (by decide) rfl (by decide) ly_65 ok_Mo.1 rfl (Nat.le_of_ble_eq_true rfl) d_Mo_eastOf_2 ?_
  refine V.aload_n d_Mo_eastOf_5 rfl 0 rfl ?_
  refine V.bipush (v := 101) d_Mo_eastOf_6 (by decide) ?_
  refine V.bipush (v := (-9)) d_Mo_eastOf_8 (by decide) ?_
  refine V.bipush (v := 9) d_Mo_eastOf_10 (by decide) ?_
  obtain ⟨r12, σ12, h1, h⟩ := bnd2_e h
  refine V.vI (as := [.int 101, .int (-9), .int 9]) (st := []) (c_Mo_byLaw Z h1) k_Mo_byLaw lk_Mo_318 (by decide) rfl (by decide) ly_65 ok_Mo.1 rfl (Nat.le_of_ble_eq_true rfl) d_Mo_eastOf_12 ?_
  cases h
  exact V.iret rfl d_Mo_eastOf_15 ⟨rfl, rfl⟩
abbrev m_Mo_northOf : MI := (⟨"ShadeTownModel", "northOf", "(I)I"⟩, prog_13_method_53_code, 2, (Option.some Jvm.ClassFile.FieldType.int))
theorem d_Mo_northOf_0 : decode prog_13_method_53_code 0 = .ok (.aload_n 0, 1) := by decide +kernel
theorem d_Mo_northOf_1 : decode prog_13_method_53_code 1 = .ok (.iload_n 1, 1) := by decide +kernel
theorem d_Mo_northOf_2 : decode prog_13_method_53_code 2 = .ok (.invokevirtual 315, 3) := by decide +kernel
theorem d_Mo_northOf_5 : decode prog_13_method_53_code 5 = .ok (.aload_n 0, 1) := by decide +kernel
theorem d_Mo_northOf_6 : decode prog_13_method_53_code 6 = .ok (.bipush 110, 2) := by decide +kernel
theorem d_Mo_northOf_8 : decode prog_13_method_53_code 8 = .ok (.bipush (-9), 2) := by decide +kernel
theorem d_Mo_northOf_10 : decode prog_13_method_53_code 10 = .ok (.bipush 9, 2) := by decide +kernel
theorem d_Mo_northOf_12 : decode prog_13_method_53_code 12 = .ok (.invokevirtual 318, 3) := by decide +kernel
theorem d_Mo_northOf_15 : decode prog_13_method_53_code 15 = .ok (.ireturn, 1) := by decide +kernel
def f_Mo_northOf (N : Nat) (σ : Mem) (a1 : Int32) : Option (Int32 × Mem) :=
  bnd1 (f_Mo_feels N σ a1) fun σ2 =>
  bnd2 (f_Mo_byLaw N σ2 110 (-9) 9) fun r12 σ12 =>
  some (r12, σ12)
set_option maxHeartbeats 4000000 in
set_option maxRecDepth 20000 in
theorem c_Mo_northOf (Z : ZX) {N : Nat} {σ : Mem} {a1 : Int32} {r : Int32} {σ' : Mem} (h : f_Mo_northOf N σ a1 = some (r, σ')) : CI Z 3 m_Mo_northOf [rf Z 65, .int a1] σ r σ' := by
  refine Ct.of (by decide +kernel) (Nat.le_of_ble_eq_true rfl) (fun Y => ?_)
  show V (mkB Z) Y m_Mo_northOf 3 (QP (mkB Z) Y nC 0 0 (fun v t => v = some (.int r) ∧ t = σ')) 0 0 nC σ 0 [(0, rf Z 65), (1, .int a1)] []
  unfold f_Mo_northOf at h
  refine V.aload_n d_Mo_northOf_0 rfl 0 rfl ?_
  refine V.iload_n d_Mo_northOf_1 rfl 1 rfl ?_
  obtain ⟨σ2, h1, h⟩ := bnd1_e h
  refine V.vN (as := [.int a1]) (st := []) (c_Mo_feels Z h1) k_Mo_feels lk_Mo_315 (by decide) rfl (by decide) ly_65 ok_Mo.1 rfl (Nat.le_of_ble_eq_true rfl) d_Mo_northOf_2 ?_
  refine V.aload_n d_Mo_northOf_5 rfl 0 rfl ?_
  refine V.bipush (v := 110) d_Mo_northOf_6 (by decide) ?_
  refine V.bipush (v := (-9)) d_Mo_northOf_8 (by decide) ?_
  refine V.bipush (v := 9) d_Mo_northOf_10 (by decide) ?_
  obtain ⟨r12, σ12, h1, h⟩ := bnd2_e h
  refine V.vI (as := [.int 110, .int (-9), .int 9]) (st := []) (c_Mo_byLaw Z h1) k_Mo_byLaw lk_Mo_318 (by decide) rfl (by decide) ly_65 ok_Mo.1 rfl (Nat.le_of_ble_eq_true rfl) d_Mo_northOf_12 ?_
  cases h
  exact V.iret rfl d_Mo_northOf_15 ⟨rfl, rfl⟩
abbrev m_Mo_cloudsIn : MI := (⟨"ShadeTownModel", "cloudsIn", "(I)I"⟩, prog_13_method_54_code, 2, (Option.some Jvm.ClassFile.FieldType.int))
theorem d_Mo_cloudsIn_0 : decode prog_13_method_54_code 0 = .ok (.aload_n 0, 1) := by decide +kernel
theorem d_Mo_cloudsIn_1 : decode prog_13_method_54_code 1 = .ok (.iload_n 1, 1) := by decide +kernel
theorem d_Mo_cloudsIn_2 : decode prog_13_method_54_code 2 = .ok (.invokevirtual 315, 3) := by decide +kernel
theorem d_Mo_cloudsIn_5 : decode prog_13_method_54_code 5 = .ok (.aload_n 0, 1) := by decide +kernel
theorem d_Mo_cloudsIn_6 : decode prog_13_method_54_code 6 = .ok (.bipush 99, 2) := by decide +kernel
theorem d_Mo_cloudsIn_8 : decode prog_13_method_54_code 8 = .ok (.iconst 0, 1) := by decide +kernel
theorem d_Mo_cloudsIn_9 : decode prog_13_method_54_code 9 = .ok (.bipush 10, 2) := by decide +kernel
theorem d_Mo_cloudsIn_11 : decode prog_13_method_54_code 11 = .ok (.invokevirtual 318, 3) := by decide +kernel
theorem d_Mo_cloudsIn_14 : decode prog_13_method_54_code 14 = .ok (.ireturn, 1) := by decide +kernel
def f_Mo_cloudsIn (N : Nat) (σ : Mem) (a1 : Int32) : Option (Int32 × Mem) :=
  bnd1 (f_Mo_feels N σ a1) fun σ2 =>
  bnd2 (f_Mo_byLaw N σ2 99 0 10) fun r11 σ11 =>
  some (r11, σ11)
set_option maxHeartbeats 4000000 in
set_option maxRecDepth 20000 in
theorem c_Mo_cloudsIn (Z : ZX) {N : Nat} {σ : Mem} {a1 : Int32} {r : Int32} {σ' : Mem} (h : f_Mo_cloudsIn N σ a1 = some (r, σ')) : CI Z 3 m_Mo_cloudsIn [rf Z 65, .int a1] σ r σ' := by
  refine Ct.of (by decide +kernel) (Nat.le_of_ble_eq_true rfl) (fun Y => ?_)
  show V (mkB Z) Y m_Mo_cloudsIn 3 (QP (mkB Z) Y nC 0 0 (fun v t => v = some (.int r) ∧ t = σ')) 0 0 nC σ 0 [(0, rf Z 65), (1, .int a1)] []
  unfold f_Mo_cloudsIn at h
  refine V.aload_n d_Mo_cloudsIn_0 rfl 0 rfl ?_
  refine V.iload_n d_Mo_cloudsIn_1 rfl 1 rfl ?_
  obtain ⟨σ2, h1, h⟩ := bnd1_e h
  refine V.vN (as := [.int a1]) (st := []) (c_Mo_feels Z h1) k_Mo_feels lk_Mo_315 (by decide) rfl (by decide) ly_65 ok_Mo.1 rfl (Nat.le_of_ble_eq_true rfl) d_Mo_cloudsIn_2 ?_
  refine V.aload_n d_Mo_cloudsIn_5 rfl 0 rfl ?_
  refine V.bipush (v := 99) d_Mo_cloudsIn_6 (by decide) ?_
  refine V.iconst (v := 0) d_Mo_cloudsIn_8 (by decide) ?_
  refine V.bipush (v := 10) d_Mo_cloudsIn_9 (by decide) ?_
  obtain ⟨r11, σ11, h1, h⟩ := bnd2_e h
  refine V.vI (as := [.int 99, .int 0, .int 10]) (st := []) (c_Mo_byLaw Z h1) k_Mo_byLaw lk_Mo_318 (by decide) rfl (by decide) ly_65 ok_Mo.1 rfl (Nat.le_of_ble_eq_true rfl) d_Mo_cloudsIn_11 ?_
  cases h
  exact V.iret rfl d_Mo_cloudsIn_14 ⟨rfl, rfl⟩
abbrev m_Mo_sun : MI := (⟨"ShadeTownModel", "sun", "(II)I"⟩, prog_13_method_55_code, 3, (Option.some Jvm.ClassFile.FieldType.int))
theorem d_Mo_sun_0 : decode prog_13_method_55_code 0 = .ok (.iload_n 1, 1) := by decide +kernel
theorem d_Mo_sun_1 : decode prog_13_method_55_code 1 = .ok (.invokestatic 321, 3) := by decide +kernel
theorem k_Mo_isHour : MOk m_Mo_isHour 1 ∧ Cond.static m_Mo_isHour.1 ∈ tblG := ⟨⟨atG 1723 (by decide +kernel) rfl, atG 122 (by decide +kernel) rfl, ⟨by decide, by decide⟩, by decide +kernel, by decide⟩, atG 1722 (by decide +kernel) rfl⟩
theorem lk_Mo_321 : Cond.methodLink "ShadeTownModel" 321 ⟨"ShadeTownModel", "isHour", "(I)Z"⟩ ∈ tblG := atG 1721 (by decide +kernel) rfl
theorem d_Mo_sun_10 : decode prog_13_method_55_code 10 = .ok (.iload_n 2, 1) := by decide +kernel
theorem d_Mo_sun_40 : decode prog_13_method_55_code 40 = .ok (.aload_n 0, 1) := by decide +kernel
theorem d_Mo_sun_41 : decode prog_13_method_55_code 41 = .ok (.iload_n 1, 1) := by decide +kernel
theorem d_Mo_sun_42 : decode prog_13_method_55_code 42 = .ok (.invokevirtual 324, 3) := by decide +kernel
theorem k_Mo_isUp : MOk m_Mo_isUp 1 ∧ IOk m_Mo_isUp := ⟨⟨atG 1727 (by decide +kernel) rfl, atG 122 (by decide +kernel) rfl, ⟨by decide, by decide⟩, by decide +kernel, by decide⟩, atG 1726 (by decide +kernel) rfl, atG 66 (by decide +kernel) rfl⟩
theorem lk_Mo_324 : Cond.methodLink "ShadeTownModel" 324 ⟨"ShadeTownModel", "isUp", "(I)Z"⟩ ∈ tblG := atG 1724 (by decide +kernel) rfl
theorem d_Mo_sun_52 : decode prog_13_method_55_code 52 = .ok (.iconst 0, 1) := by decide +kernel
theorem d_Mo_sun_53 : decode prog_13_method_55_code 53 = .ok (.ireturn, 1) := by decide +kernel
theorem d_Mo_sun_48 : decode prog_13_method_55_code 48 = .ok (.iconst 1, 1) := by decide +kernel
theorem d_Mo_sun_49 : decode prog_13_method_55_code 49 = .ok (.goto 4, 3) := by decide +kernel
theorem d_Mo_sun_45 : decode prog_13_method_55_code 45 = .ok (.ifCond .eq 7, 3) := by decide +kernel
theorem d_Mo_sun_54 : decode prog_13_method_55_code 54 = .ok (.aload_n 0, 1) := by decide +kernel
theorem d_Mo_sun_55 : decode prog_13_method_55_code 55 = .ok (.iload_n 1, 1) := by decide +kernel
theorem d_Mo_sun_56 : decode prog_13_method_55_code 56 = .ok (.invokevirtual 327, 3) := by decide +kernel
theorem k_Mo_eastOf : MOk m_Mo_eastOf 1 ∧ IOk m_Mo_eastOf := ⟨⟨atG 1742 (by decide +kernel) rfl, atG 122 (by decide +kernel) rfl, ⟨by decide, by decide⟩, by decide +kernel, by decide⟩, atG 1741 (by decide +kernel) rfl, atG 69 (by decide +kernel) rfl⟩
theorem lk_Mo_327 : Cond.methodLink "ShadeTownModel" 327 ⟨"ShadeTownModel", "eastOf", "(I)I"⟩ ∈ tblG := atG 1739 (by decide +kernel) rfl
theorem d_Mo_sun_59 : decode prog_13_method_55_code 59 = .ok (.ireturn, 1) := by decide +kernel
theorem d_Mo_sun_60 : decode prog_13_method_55_code 60 = .ok (.aload_n 0, 1) := by decide +kernel
theorem d_Mo_sun_61 : decode prog_13_method_55_code 61 = .ok (.iload_n 1, 1) := by decide +kernel
theorem d_Mo_sun_62 : decode prog_13_method_55_code 62 = .ok (.invokevirtual 330, 3) := by decide +kernel
theorem k_Mo_northOf : MOk m_Mo_northOf 1 ∧ IOk m_Mo_northOf := ⟨⟨atG 1750 (by decide +kernel) rfl, atG 122 (by decide +kernel) rfl, ⟨by decide, by decide⟩, by decide +kernel, by decide⟩, atG 1749 (by decide +kernel) rfl, atG 71 (by decide +kernel) rfl⟩
theorem lk_Mo_330 : Cond.methodLink "ShadeTownModel" 330 ⟨"ShadeTownModel", "northOf", "(I)I"⟩ ∈ tblG := atG 1747 (by decide +kernel) rfl
theorem d_Mo_sun_65 : decode prog_13_method_55_code 65 = .ok (.ireturn, 1) := by decide +kernel
theorem d_Mo_sun_66 : decode prog_13_method_55_code 66 = .ok (.aload_n 0, 1) := by decide +kernel
theorem d_Mo_sun_67 : decode prog_13_method_55_code 67 = .ok (.iload_n 1, 1) := by decide +kernel
theorem d_Mo_sun_68 : decode prog_13_method_55_code 68 = .ok (.invokevirtual 333, 3) := by decide +kernel
theorem k_Mo_cloudsIn : MOk m_Mo_cloudsIn 1 ∧ IOk m_Mo_cloudsIn := ⟨⟨atG 1754 (by decide +kernel) rfl, atG 122 (by decide +kernel) rfl, ⟨by decide, by decide⟩, by decide +kernel, by decide⟩, atG 1753 (by decide +kernel) rfl, atG 72 (by decide +kernel) rfl⟩
theorem lk_Mo_333 : Cond.methodLink "ShadeTownModel" 333 ⟨"ShadeTownModel", "cloudsIn", "(I)I"⟩ ∈ tblG := atG 1751 (by decide +kernel) rfl
theorem d_Mo_sun_71 : decode prog_13_method_55_code 71 = .ok (.ireturn, 1) := by decide +kernel
theorem d_Mo_sun_72 : decode prog_13_method_55_code 72 = .ok (.bipush (-100), 2) := by decide +kernel
theorem d_Mo_sun_74 : decode prog_13_method_55_code 74 = .ok (.ireturn, 1) := by decide +kernel
theorem d_Mo_sun_11 : decode prog_13_method_55_code 11 = .ok (.tableswitch 61 0 3 #[29, 43, 49, 55], 29) := by decide +kernel
theorem d_Mo_sun_7 : decode prog_13_method_55_code 7 = .ok (.bipush (-100), 2) := by decide +kernel
theorem d_Mo_sun_9 : decode prog_13_method_55_code 9 = .ok (.ireturn, 1) := by decide +kernel
theorem d_Mo_sun_4 : decode prog_13_method_55_code 4 = .ok (.ifCond .ne 6, 3) := by decide +kernel
def f_Mo_sun (N : Nat) (σ : Mem) (a1 : Int32) (a2 : Int32) : Option (Int32 × Mem) :=
  bnd1 (f_Mo_isHour a1) fun r1 =>
  if r1 = 0 then
    (some ((-100), σ))
  else
    (if a2 = 0 then
      (bnd2 (f_Mo_isUp N σ a1) fun r42 σ42 =>
      if r42 = 0 then
        (some (0, σ42))
      else
        (some (1, σ42)))
    else
    if a2 = 1 then
      (bnd2 (f_Mo_eastOf N σ a1) fun r56 σ56 =>
      some (r56, σ56))
    else
    if a2 = 2 then
      (bnd2 (f_Mo_northOf N σ a1) fun r62 σ62 =>
      some (r62, σ62))
    else
    if a2 = 3 then
      (bnd2 (f_Mo_cloudsIn N σ a1) fun r68 σ68 =>
      some (r68, σ68))
    else
    (some ((-100), σ)))
set_option maxHeartbeats 4000000 in
set_option maxRecDepth 20000 in
theorem c_Mo_sun (Z : ZX) {N : Nat} {σ : Mem} {a1 : Int32} {a2 : Int32} {r : Int32} {σ' : Mem} (h : f_Mo_sun N σ a1 a2 = some (r, σ')) : CI Z 4 m_Mo_sun [rf Z 65, .int a1, .int a2] σ r σ' := by
  refine Ct.of (by decide +kernel) (Nat.le_of_ble_eq_true rfl) (fun Y => ?_)
  show V (mkB Z) Y m_Mo_sun 4 (QP (mkB Z) Y nC 0 0 (fun v t => v = some (.int r) ∧ t = σ')) 0 0 nC σ 0 [(0, rf Z 65), (1, .int a1), (2, .int a2)] []
  unfold f_Mo_sun at h
  refine V.iload_n d_Mo_sun_0 rfl 1 rfl ?_
  obtain ⟨r1, h1, h⟩ := bnd1_e h
  refine V.sI (as := [.int a1]) (st := []) (c_Mo_isHour Z h1) k_Mo_isHour lk_Mo_321 (by decide) rfl rfl (Nat.le_of_ble_eq_true rfl) d_Mo_sun_1 ?_
  refine V.if_ne (tgt := 10) d_Mo_sun_4 (by decide) (fun hc4 => ?_) (fun hc4 => ?_)
  · replace h := ite_f hc4 h
    refine V.iload_n d_Mo_sun_10 rfl 2 rfl ?_
    by_cases hs11_0 : a2 = 0
    · replace h := ite_t hs11_0 h
      refine V.tin (c := 0) (tgt := 40) d_Mo_sun_11 hs11_0 (by decide) (by decide) rfl (by decide) ?_
      refine V.aload_n d_Mo_sun_40 rfl 0 rfl ?_
      refine V.iload_n d_Mo_sun_41 rfl 1 rfl ?_
      obtain ⟨r42, σ42, h1, h⟩ := bnd2_e h
      refine V.vI (as := [.int a1]) (st := []) (c_Mo_isUp Z h1) k_Mo_isUp lk_Mo_324 (by decide) rfl (by decide) ly_65 ok_Mo.1 rfl (Nat.le_of_ble_eq_true rfl) d_Mo_sun_42 ?_
      refine V.if_eq (tgt := 52) d_Mo_sun_45 (by decide) (fun hc45 => ?_) (fun hc45 => ?_)
      · replace h := ite_t hc45 h
        refine V.iconst (v := 0) d_Mo_sun_52 (by decide) ?_
        cases h
        exact V.iret rfl d_Mo_sun_53 ⟨rfl, rfl⟩
      · replace h := ite_f hc45 h
        refine V.iconst (v := 1) d_Mo_sun_48 (by decide) ?_
        refine V.goto (tgt := 53) d_Mo_sun_49 (by decide) ?_
        cases h
        exact V.iret rfl d_Mo_sun_53 ⟨rfl, rfl⟩
    · replace h := ite_f hs11_0 h
      by_cases hs11_1 : a2 = 1
      · replace h := ite_t hs11_1 h
        refine V.tin (c := 1) (tgt := 54) d_Mo_sun_11 hs11_1 (by decide) (by decide) rfl (by decide) ?_
        refine V.aload_n d_Mo_sun_54 rfl 0 rfl ?_
        refine V.iload_n d_Mo_sun_55 rfl 1 rfl ?_
        obtain ⟨r56, σ56, h1, h⟩ := bnd2_e h
        refine V.vI (as := [.int a1]) (st := []) (c_Mo_eastOf Z h1) k_Mo_eastOf lk_Mo_327 (by decide) rfl (by decide) ly_65 ok_Mo.1 rfl (Nat.le_of_ble_eq_true rfl) d_Mo_sun_56 ?_
        cases h
        exact V.iret rfl d_Mo_sun_59 ⟨rfl, rfl⟩
      · replace h := ite_f hs11_1 h
        by_cases hs11_2 : a2 = 2
        · replace h := ite_t hs11_2 h
          refine V.tin (c := 2) (tgt := 60) d_Mo_sun_11 hs11_2 (by decide) (by decide) rfl (by decide) ?_
          refine V.aload_n d_Mo_sun_60 rfl 0 rfl ?_
          refine V.iload_n d_Mo_sun_61 rfl 1 rfl ?_
          obtain ⟨r62, σ62, h1, h⟩ := bnd2_e h
          refine V.vI (as := [.int a1]) (st := []) (c_Mo_northOf Z h1) k_Mo_northOf lk_Mo_330 (by decide) rfl (by decide) ly_65 ok_Mo.1 rfl (Nat.le_of_ble_eq_true rfl) d_Mo_sun_62 ?_
          cases h
          exact V.iret rfl d_Mo_sun_65 ⟨rfl, rfl⟩
        · replace h := ite_f hs11_2 h
          by_cases hs11_3 : a2 = 3
          · replace h := ite_t hs11_3 h
            refine V.tin (c := 3) (tgt := 66) d_Mo_sun_11 hs11_3 (by decide) (by decide) rfl (by decide) ?_
            refine V.aload_n d_Mo_sun_66 rfl 0 rfl ?_
            refine V.iload_n d_Mo_sun_67 rfl 1 rfl ?_
            obtain ⟨r68, σ68, h1, h⟩ := bnd2_e h
            refine V.vI (as := [.int a1]) (st := []) (c_Mo_cloudsIn Z h1) k_Mo_cloudsIn lk_Mo_333 (by decide) rfl (by decide) ly_65 ok_Mo.1 rfl (Nat.le_of_ble_eq_true rfl) d_Mo_sun_68 ?_
            cases h
            exact V.iret rfl d_Mo_sun_71 ⟨rfl, rfl⟩
          · replace h := ite_f hs11_3 h
            refine V.tdef (tgt := 72) d_Mo_sun_11 (fun i h1 h2 => ?_) (by decide) ?_
            · rcases (show i = 0 ∨ i = 1 ∨ i = 2 ∨ i = 3 by omega) with rfl | rfl | rfl | rfl
              · exact Or.inl (fun e => hs11_0 (e.trans (by decide)))
              · exact Or.inl (fun e => hs11_1 (e.trans (by decide)))
              · exact Or.inl (fun e => hs11_2 (e.trans (by decide)))
              · exact Or.inl (fun e => hs11_3 (e.trans (by decide)))
            · refine V.bipush (v := (-100)) d_Mo_sun_72 (by decide) ?_
              cases h
              exact V.iret rfl d_Mo_sun_74 ⟨rfl, rfl⟩
  · replace h := ite_t hc4 h
    refine V.bipush (v := (-100)) d_Mo_sun_7 (by decide) ?_
    cases h
    exact V.iret rfl d_Mo_sun_9 ⟨rfl, rfl⟩
abbrev m_Mo_laysFree : MI := (⟨"ShadeTownModel", "laysFree", "()V"⟩, prog_13_method_59_code, 2, (Option.none : Option Jvm.ClassFile.FieldType))
theorem d_Mo_laysFree_0 : decode prog_13_method_59_code 0 = .ok (.aload_n 0, 1) := by decide +kernel
theorem d_Mo_laysFree_1 : decode prog_13_method_59_code 1 = .ok (.iconst 0, 1) := by decide +kernel
theorem fl_Mo_355 : FL "ShadeTownModel" 355 T_Mo 37 := atG 1369 (by decide +kernel) rfl
theorem d_Mo_laysFree_2 : decode prog_13_method_59_code 2 = .ok (.putfield 355, 3) := by decide +kernel
theorem d_Mo_laysFree_5 : decode prog_13_method_59_code 5 = .ok (.iconst 0, 1) := by decide +kernel
theorem d_Mo_laysFree_6 : decode prog_13_method_59_code 6 = .ok (.istore_n 1, 1) := by decide +kernel
theorem d_Mo_laysFree_7 : decode prog_13_method_59_code 7 = .ok (.iload_n 1, 1) := by decide +kernel
theorem d_Mo_laysFree_8 : decode prog_13_method_59_code 8 = .ok (.sipush 144, 3) := by decide +kernel
theorem d_Mo_laysFree_54 : decode prog_13_method_59_code 54 = .ok (.return_, 1) := by decide +kernel
theorem d_Mo_laysFree_14 : decode prog_13_method_59_code 14 = .ok (.aload_n 0, 1) := by decide +kernel
theorem fl_Mo_78 : FL "ShadeTownModel" 78 T_Mo 36 := atG 1368 (by decide +kernel) rfl
theorem d_Mo_laysFree_15 : decode prog_13_method_59_code 15 = .ok (.getfield 78, 3) := by decide +kernel
theorem d_Mo_laysFree_18 : decode prog_13_method_59_code 18 = .ok (.iload_n 1, 1) := by decide +kernel
theorem d_Mo_laysFree_19 : decode prog_13_method_59_code 19 = .ok (.aload_n 0, 1) := by decide +kernel
theorem d_Mo_laysFree_20 : decode prog_13_method_59_code 20 = .ok (.iload_n 1, 1) := by decide +kernel
theorem d_Mo_laysFree_21 : decode prog_13_method_59_code 21 = .ok (.invokevirtual 192, 3) := by decide +kernel
theorem d_Mo_laysFree_24 : decode prog_13_method_59_code 24 = .ok (.bastore, 1) := by decide +kernel
theorem d_Mo_laysFree_25 : decode prog_13_method_59_code 25 = .ok (.aload_n 0, 1) := by decide +kernel
theorem d_Mo_laysFree_26 : decode prog_13_method_59_code 26 = .ok (.aload_n 0, 1) := by decide +kernel
theorem d_Mo_laysFree_27 : decode prog_13_method_59_code 27 = .ok (.getfield 355, 3) := by decide +kernel
theorem d_Mo_laysFree_30 : decode prog_13_method_59_code 30 = .ok (.aload_n 0, 1) := by decide +kernel
theorem d_Mo_laysFree_31 : decode prog_13_method_59_code 31 = .ok (.getfield 78, 3) := by decide +kernel
theorem d_Mo_laysFree_34 : decode prog_13_method_59_code 34 = .ok (.iload_n 1, 1) := by decide +kernel
theorem d_Mo_laysFree_35 : decode prog_13_method_59_code 35 = .ok (.baload, 1) := by decide +kernel
theorem d_Mo_laysFree_43 : decode prog_13_method_59_code 43 = .ok (.iconst 0, 1) := by decide +kernel
theorem d_Mo_laysFree_39 : decode prog_13_method_59_code 39 = .ok (.iconst 1, 1) := by decide +kernel
theorem d_Mo_laysFree_40 : decode prog_13_method_59_code 40 = .ok (.goto 4, 3) := by decide +kernel
theorem d_Mo_laysFree_36 : decode prog_13_method_59_code 36 = .ok (.ifCond .eq 7, 3) := by decide +kernel
theorem d_Mo_laysFree_44 : decode prog_13_method_59_code 44 = .ok (.iadd, 1) := by decide +kernel
theorem d_Mo_laysFree_45 : decode prog_13_method_59_code 45 = .ok (.putfield 355, 3) := by decide +kernel
theorem d_Mo_laysFree_48 : decode prog_13_method_59_code 48 = .ok (.iinc 1 1, 3) := by decide +kernel
theorem d_Mo_laysFree_51 : decode prog_13_method_59_code 51 = .ok (.goto (-44), 3) := by decide +kernel
theorem d_Mo_laysFree_11 : decode prog_13_method_59_code 11 = .ok (.if_icmp .ge 43, 3) := by decide +kernel
def B_Mo_laysFree_l7 (N : Nat) (rec : Int32 → Mem → Option (Mem)) (x1 : Int32) (σ : Mem) : Option (Mem) :=
  if 144 ≤ x1 then
    (some σ)
  else
    (bnd1 (f_Mo_isFree N σ x1) fun r21 =>
    grd (inb x1 144) <|
    letv (sI σ 88 (x1.toNatClampNeg) (r21 &&& 1)) fun σ24 =>
    grd (inb x1 144) <|
    bnd1 ((
      if (mI σ24 88 (x1.toNatClampNeg)) = 0 then
        (some 0)
      else
        (some 1)) : Option (Int32)) fun y36_s2 =>
    letv (sI σ24 65 37 ((mI σ24 65 37) + y36_s2)) fun σ45 =>
    letv (x1 + 1) fun v48 =>
    rec v48 σ45)
def L_Mo_laysFree_l7 (N : Nat) : Nat → Int32 → Mem → Option (Mem)
  | 0, _, _ => none
  | k + 1, x1, σ => B_Mo_laysFree_l7 N (L_Mo_laysFree_l7 N k) x1 σ
set_option maxHeartbeats 4000000 in
set_option maxRecDepth 20000 in
theorem cL_Mo_laysFree_l7 (Z : ZX) {Y : YX} {post : Option Value → Mem → Prop} {N : Nat} {Good : Mem → Prop} (hR : ∀ (σr : Mem), Good σr → post none σr) : ∀ (k : Nat) (x1 : Int32) (σ : Mem) (res : Mem), L_Mo_laysFree_l7 N k x1 σ = some res → Good res → V (mkB Z) Y m_Mo_laysFree 3 (QP (mkB Z) Y nC 0 0 post) 0 0 nC σ 7 [(0, rf Z 65), (1, .int x1)] [] := by
  intro k
  induction k with
  | zero => intro x1 σ res h; cases h
  | succ k ih =>
    intro x1 σ res h hg
    replace h : B_Mo_laysFree_l7 N (L_Mo_laysFree_l7 N k) x1 σ = some res := h
    unfold B_Mo_laysFree_l7 at h
    refine V.iload_n d_Mo_laysFree_7 rfl 1 rfl ?_
    refine V.sipush (v := 144) d_Mo_laysFree_8 (by decide) ?_
    refine V.icmp_ge (tgt := 54) d_Mo_laysFree_11 (by decide) (fun hc11 => ?_) (fun hc11 => ?_)
    · replace h := ite_t hc11 h
      cases h
      exact V.vret rfl d_Mo_laysFree_54 (hR _ hg)
    · replace h := ite_f hc11 h
      refine V.aload_n d_Mo_laysFree_14 rfl 0 rfl ?_
      refine V.getR (r := 88) ok_Mo fl_Mo_78 (by decide) (by decide) ly_65 rfl d_Mo_laysFree_15 ?_
      refine V.iload_n d_Mo_laysFree_18 rfl 1 rfl ?_
      refine V.aload_n d_Mo_laysFree_19 rfl 0 rfl ?_
      refine V.iload_n d_Mo_laysFree_20 rfl 1 rfl ?_
      obtain ⟨r21, h1, h⟩ := bnd1_e h
      refine V.vI (as := [.int x1]) (st := [.int x1, rf Z 88]) (c_Mo_isFree Z h1) k_Mo_isFree lk_Mo_192 (by decide) rfl (by decide) ly_65 ok_Mo.1 rfl (Nat.le_of_ble_eq_true rfl) d_Mo_laysFree_21 ?_
      obtain ⟨gq, h⟩ := grd_e h
      obtain ⟨σ24, e_σ24, h⟩ := letv_e h
      refine V.wz (by decide) ly_88 (inb_e gq) rfl d_Mo_laysFree_24 e_σ24 ?_
      refine V.aload_n d_Mo_laysFree_25 rfl 0 rfl ?_
      refine V.aload_n d_Mo_laysFree_26 rfl 0 rfl ?_
      refine V.getI ok_Mo fl_Mo_355 (by decide) (by decide) ly_65 rfl d_Mo_laysFree_27 ?_
      refine V.aload_n d_Mo_laysFree_30 rfl 0 rfl ?_
      refine V.getR (r := 88) ok_Mo fl_Mo_78 (by decide) (by decide) ly_65 rfl d_Mo_laysFree_31 ?_
      refine V.iload_n d_Mo_laysFree_34 rfl 1 rfl ?_
      obtain ⟨gq, h⟩ := grd_e h
      refine V.rz (by decide) ly_88 (inb_e gq) rfl d_Mo_laysFree_35 ?_
      obtain ⟨s36, h1, h⟩ := bnd1_e h
      have J36_44 : ∀ (y36_s2 : Int32), s36 = y36_s2 → V (mkB Z) Y m_Mo_laysFree 3 (QP (mkB Z) Y nC 0 0 post) 0 0 nC σ24 44 [(0, rf Z 65), (1, .int x1)] [.int y36_s2, .int (mI σ24 65 37), rf Z 65] := by
        intro y36_s2 he
        rw [he] at h
        refine V.iadd d_Mo_laysFree_44 ?_
        obtain ⟨σ45, e_σ45, h⟩ := letv_e h
        refine V.putI ok_Mo fl_Mo_355 (by decide) (by decide) ly_65 rfl rfl rfl rfl d_Mo_laysFree_45 (V.mem e_σ45 ?_)
        obtain ⟨v48, e_v48, h⟩ := letv_e h
        refine V.iinc (v := v48) (lv' := [(1, .int v48), (0, rf Z 65)]) d_Mo_laysFree_48 1 rfl (by rw [e_v48]; rfl) (by decide) rfl ?_
        refine V.goto (tgt := 7) d_Mo_laysFree_51 (by decide) ?_
        exact V.pick [1, 0] rfl (ih _ _ _ h hg)
      replace h := h1
      refine V.if_eq (tgt := 43) d_Mo_laysFree_36 (by decide) (fun hc36 => ?_) (fun hc36 => ?_)
      · replace h := ite_t hc36 h
        refine V.iconst (v := 0) d_Mo_laysFree_43 (by decide) ?_
        exact V.pick [0, 1] rfl (J36_44 _ (Option.some.inj h).symm)
      · replace h := ite_f hc36 h
        refine V.iconst (v := 1) d_Mo_laysFree_39 (by decide) ?_
        refine V.goto (tgt := 44) d_Mo_laysFree_40 (by decide) ?_
        exact V.pick [0, 1] rfl (J36_44 _ (Option.some.inj h).symm)
def f_Mo_laysFree (N : Nat) (σ : Mem) : Option (Mem) :=
  letv (sI σ 65 37 0) fun σ2 =>
  L_Mo_laysFree_l7 N N 0 σ2
set_option maxHeartbeats 4000000 in
set_option maxRecDepth 20000 in
theorem c_Mo_laysFree (Z : ZX) {N : Nat} {σ : Mem} {σ' : Mem} (h : f_Mo_laysFree N σ = some σ') : CN Z 3 m_Mo_laysFree [rf Z 65] σ σ' := by
  refine Ct.of (by decide +kernel) (Nat.le_of_ble_eq_true rfl) (fun Y => ?_)
  show V (mkB Z) Y m_Mo_laysFree 3 (QP (mkB Z) Y nC 0 0 (fun v t => v = none ∧ t = σ')) 0 0 nC σ 0 [(0, rf Z 65)] []
  unfold f_Mo_laysFree at h
  refine V.aload_n d_Mo_laysFree_0 rfl 0 rfl ?_
  refine V.iconst (v := 0) d_Mo_laysFree_1 (by decide) ?_
  obtain ⟨σ2, e_σ2, h⟩ := letv_e h
  refine V.putI ok_Mo fl_Mo_355 (by decide) (by decide) ly_65 rfl rfl rfl rfl d_Mo_laysFree_2 (V.mem e_σ2 ?_)
  refine V.iconst (v := 0) d_Mo_laysFree_5 (by decide) ?_
  refine V.istore_n (lv' := [(1, .int 0), (0, rf Z 65)]) d_Mo_laysFree_6 rfl (by decide) rfl ?_
  refine V.pick [1, 0] rfl (cL_Mo_laysFree_l7 Z (Good := fun z => z = _) (fun r7m he => ?_) N _ _ _ h rfl)
  · cases he
    exact ⟨rfl, rfl⟩
abbrev m_Mo_size : MI := (⟨"ShadeTownModel", "size", "(I)I"⟩, prog_13_method_5_code, 1, (Option.some Jvm.ClassFile.FieldType.int))
theorem d_Mo_size_0 : decode prog_13_method_5_code 0 = .ok (.iload_n 0, 1) := by decide +kernel
theorem d_Mo_size_9 : decode prog_13_method_5_code 9 = .ok (.iload_n 0, 1) := by decide +kernel
theorem d_Mo_size_10 : decode prog_13_method_5_code 10 = .ok (.ireturn, 1) := by decide +kernel
theorem d_Mo_size_4 : decode prog_13_method_5_code 4 = .ok (.iload_n 0, 1) := by decide +kernel
theorem d_Mo_size_5 : decode prog_13_method_5_code 5 = .ok (.ineg, 1) := by decide +kernel
theorem d_Mo_size_6 : decode prog_13_method_5_code 6 = .ok (.goto 4, 3) := by decide +kernel
theorem d_Mo_size_1 : decode prog_13_method_5_code 1 = .ok (.ifCond .ge 8, 3) := by decide +kernel
def f_Mo_size (a0 : Int32) : Option (Int32) :=
  if 0 ≤ a0 then
    (some a0)
  else
    (some (-a0))
set_option maxHeartbeats 4000000 in
set_option maxRecDepth 20000 in
theorem c_Mo_size (Z : ZX) {σ : Mem} {a0 : Int32} {r : Int32} (h : f_Mo_size a0 = some r) : CI Z 0 m_Mo_size [.int a0] σ r σ := by
  refine Ct.of (by decide +kernel) (Nat.le_of_ble_eq_true rfl) (fun Y => ?_)
  show V (mkB Z) Y m_Mo_size 0 (QP (mkB Z) Y nC 0 0 (fun v t => v = some (.int r) ∧ t = σ)) 0 0 nC σ 0 [(0, .int a0)] []
  unfold f_Mo_size at h
  refine V.iload_n d_Mo_size_0 rfl 0 rfl ?_
  refine V.if_ge (tgt := 9) d_Mo_size_1 (by decide) (fun hc1 => ?_) (fun hc1 => ?_)
  · replace h := ite_t hc1 h
    refine V.iload_n d_Mo_size_9 rfl 0 rfl ?_
    cases h
    exact V.iret rfl d_Mo_size_10 ⟨rfl, rfl⟩
  · replace h := ite_f hc1 h
    refine V.iload_n d_Mo_size_4 rfl 0 rfl ?_
    refine V.ineg d_Mo_size_5 ?_
    refine V.goto (tgt := 10) d_Mo_size_6 (by decide) ?_
    cases h
    exact V.iret rfl d_Mo_size_10 ⟨rfl, rfl⟩
abbrev m_Mo_max : MI := (⟨"ShadeTownModel", "max", "(II)I"⟩, prog_13_method_4_code, 2, (Option.some Jvm.ClassFile.FieldType.int))
theorem d_Mo_max_0 : decode prog_13_method_4_code 0 = .ok (.iload_n 0, 1) := by decide +kernel
theorem d_Mo_max_1 : decode prog_13_method_4_code 1 = .ok (.iload_n 1, 1) := by decide +kernel
theorem d_Mo_max_9 : decode prog_13_method_4_code 9 = .ok (.iload_n 1, 1) := by decide +kernel
theorem d_Mo_max_10 : decode prog_13_method_4_code 10 = .ok (.ireturn, 1) := by decide +kernel
theorem d_Mo_max_5 : decode prog_13_method_4_code 5 = .ok (.iload_n 0, 1) := by decide +kernel
theorem d_Mo_max_6 : decode prog_13_method_4_code 6 = .ok (.goto 4, 3) := by decide +kernel
theorem d_Mo_max_2 : decode prog_13_method_4_code 2 = .ok (.if_icmp .le 7, 3) := by decide +kernel
def f_Mo_max (a0 : Int32) (a1 : Int32) : Option (Int32) :=
  if a0 ≤ a1 then
    (some a1)
  else
    (some a0)
set_option maxHeartbeats 4000000 in
set_option maxRecDepth 20000 in
theorem c_Mo_max (Z : ZX) {σ : Mem} {a0 : Int32} {a1 : Int32} {r : Int32} (h : f_Mo_max a0 a1 = some r) : CI Z 0 m_Mo_max [.int a0, .int a1] σ r σ := by
  refine Ct.of (by decide +kernel) (Nat.le_of_ble_eq_true rfl) (fun Y => ?_)
  show V (mkB Z) Y m_Mo_max 0 (QP (mkB Z) Y nC 0 0 (fun v t => v = some (.int r) ∧ t = σ)) 0 0 nC σ 0 [(0, .int a0), (1, .int a1)] []
  unfold f_Mo_max at h
  refine V.iload_n d_Mo_max_0 rfl 0 rfl ?_
  refine V.iload_n d_Mo_max_1 rfl 1 rfl ?_
  refine V.icmp_le (tgt := 9) d_Mo_max_2 (by decide) (fun hc2 => ?_) (fun hc2 => ?_)
  · replace h := ite_t hc2 h
    refine V.iload_n d_Mo_max_9 rfl 1 rfl ?_
    cases h
    exact V.iret rfl d_Mo_max_10 ⟨rfl, rfl⟩
  · replace h := ite_f hc2 h
    refine V.iload_n d_Mo_max_5 rfl 0 rfl ?_
    refine V.goto (tgt := 10) d_Mo_max_6 (by decide) ?_
    cases h
    exact V.iret rfl d_Mo_max_10 ⟨rfl, rfl⟩
abbrev m_Mo_min : MI := (⟨"ShadeTownModel", "min", "(II)I"⟩, prog_13_method_3_code, 2, (Option.some Jvm.ClassFile.FieldType.int))
theorem d_Mo_min_0 : decode prog_13_method_3_code 0 = .ok (.iload_n 0, 1) := by decide +kernel
theorem d_Mo_min_1 : decode prog_13_method_3_code 1 = .ok (.iload_n 1, 1) := by decide +kernel
theorem d_Mo_min_9 : decode prog_13_method_3_code 9 = .ok (.iload_n 1, 1) := by decide +kernel
theorem d_Mo_min_10 : decode prog_13_method_3_code 10 = .ok (.ireturn, 1) := by decide +kernel
theorem d_Mo_min_5 : decode prog_13_method_3_code 5 = .ok (.iload_n 0, 1) := by decide +kernel
theorem d_Mo_min_6 : decode prog_13_method_3_code 6 = .ok (.goto 4, 3) := by decide +kernel
theorem d_Mo_min_2 : decode prog_13_method_3_code 2 = .ok (.if_icmp .ge 7, 3) := by decide +kernel
def f_Mo_min (a0 : Int32) (a1 : Int32) : Option (Int32) :=
  if a1 ≤ a0 then
    (some a1)
  else
    (some a0)
set_option maxHeartbeats 4000000 in
set_option maxRecDepth 20000 in
theorem c_Mo_min (Z : ZX) {σ : Mem} {a0 : Int32} {a1 : Int32} {r : Int32} (h : f_Mo_min a0 a1 = some r) : CI Z 0 m_Mo_min [.int a0, .int a1] σ r σ := by
  refine Ct.of (by decide +kernel) (Nat.le_of_ble_eq_true rfl) (fun Y => ?_)
  show V (mkB Z) Y m_Mo_min 0 (QP (mkB Z) Y nC 0 0 (fun v t => v = some (.int r) ∧ t = σ)) 0 0 nC σ 0 [(0, .int a0), (1, .int a1)] []
  unfold f_Mo_min at h
  refine V.iload_n d_Mo_min_0 rfl 0 rfl ?_
  refine V.iload_n d_Mo_min_1 rfl 1 rfl ?_
  refine V.icmp_ge (tgt := 9) d_Mo_min_2 (by decide) (fun hc2 => ?_) (fun hc2 => ?_)
  · replace h := ite_t hc2 h
    refine V.iload_n d_Mo_min_9 rfl 1 rfl ?_
    cases h
    exact V.iret rfl d_Mo_min_10 ⟨rfl, rfl⟩
  · replace h := ite_f hc2 h
    refine V.iload_n d_Mo_min_5 rfl 0 rfl ?_
    refine V.goto (tgt := 10) d_Mo_min_6 (by decide) ?_
    cases h
    exact V.iret rfl d_Mo_min_10 ⟨rfl, rfl⟩
abbrev m_Mo_casts : MI := (⟨"ShadeTownModel", "casts", "(IIII)V"⟩, prog_13_method_56_code, 6, (Option.none : Option Jvm.ClassFile.FieldType))
theorem d_Mo_casts_0 : decode prog_13_method_56_code 0 = .ok (.iload_n 2, 1) := by decide +kernel
theorem d_Mo_casts_1 : decode prog_13_method_56_code 1 = .ok (.iload_n 3, 1) := by decide +kernel
theorem d_Mo_casts_2 : decode prog_13_method_56_code 2 = .ok (.invokestatic 185, 3) := by decide +kernel
theorem d_Mo_casts_9 : decode prog_13_method_56_code 9 = .ok (.sipush 144, 3) := by decide +kernel
theorem d_Mo_casts_12 : decode prog_13_method_56_code 12 = .ok (.iload_n 1, 1) := by decide +kernel
theorem d_Mo_casts_13 : decode prog_13_method_56_code 13 = .ok (.imul, 1) := by decide +kernel
theorem d_Mo_casts_14 : decode prog_13_method_56_code 14 = .ok (.bipush 12, 2) := by decide +kernel
theorem d_Mo_casts_16 : decode prog_13_method_56_code 16 = .ok (.iload_n 3, 1) := by decide +kernel
theorem d_Mo_casts_17 : decode prog_13_method_56_code 17 = .ok (.imul, 1) := by decide +kernel
theorem d_Mo_casts_18 : decode prog_13_method_56_code 18 = .ok (.iadd, 1) := by decide +kernel
theorem d_Mo_casts_19 : decode prog_13_method_56_code 19 = .ok (.iload_n 2, 1) := by decide +kernel
theorem d_Mo_casts_20 : decode prog_13_method_56_code 20 = .ok (.iadd, 1) := by decide +kernel
theorem d_Mo_casts_21 : decode prog_13_method_56_code 21 = .ok (.istore 5, 2) := by decide +kernel
theorem d_Mo_casts_23 : decode prog_13_method_56_code 23 = .ok (.aload_n 0, 1) := by decide +kernel
theorem fl_Mo_71 : FL "ShadeTownModel" 71 T_Mo 34 := atG 1366 (by decide +kernel) rfl
theorem d_Mo_casts_24 : decode prog_13_method_56_code 24 = .ok (.getfield 71, 3) := by decide +kernel
theorem d_Mo_casts_27 : decode prog_13_method_56_code 27 = .ok (.iload 5, 2) := by decide +kernel
theorem d_Mo_casts_29 : decode prog_13_method_56_code 29 = .ok (.aload_n 0, 1) := by decide +kernel
theorem d_Mo_casts_30 : decode prog_13_method_56_code 30 = .ok (.getfield 71, 3) := by decide +kernel
theorem d_Mo_casts_33 : decode prog_13_method_56_code 33 = .ok (.iload 5, 2) := by decide +kernel
theorem d_Mo_casts_35 : decode prog_13_method_56_code 35 = .ok (.iaload, 1) := by decide +kernel
theorem d_Mo_casts_36 : decode prog_13_method_56_code 36 = .ok (.iconst 1, 1) := by decide +kernel
theorem d_Mo_casts_37 : decode prog_13_method_56_code 37 = .ok (.iload 4, 2) := by decide +kernel
theorem d_Mo_casts_39 : decode prog_13_method_56_code 39 = .ok (.ishl, 1) := by decide +kernel
theorem d_Mo_casts_40 : decode prog_13_method_56_code 40 = .ok (.ior, 1) := by decide +kernel
theorem d_Mo_casts_41 : decode prog_13_method_56_code 41 = .ok (.iastore, 1) := by decide +kernel
theorem d_Mo_casts_42 : decode prog_13_method_56_code 42 = .ok (.return_, 1) := by decide +kernel
theorem d_Mo_casts_8 : decode prog_13_method_56_code 8 = .ok (.return_, 1) := by decide +kernel
theorem d_Mo_casts_5 : decode prog_13_method_56_code 5 = .ok (.ifCond .ne 4, 3) := by decide +kernel
def f_Mo_casts (σ : Mem) (a1 : Int32) (a2 : Int32) (a3 : Int32) (a4 : Int32) : Option (Mem) :=
  bnd1 (f_Mo_isIn a2 a3) fun r2 =>
  if r2 = 0 then
    (some σ)
  else
    (letv (((144 * a1) + (12 * a3)) + a2) fun v21 =>
    grd (inb v21 3456) <|
    grd (inb v21 3456) <|
    letv (sI σ 86 (v21.toNatClampNeg) ((mI σ 86 (v21.toNatClampNeg)) ||| (1 <<< (a4 &&& 31)))) fun σ41 =>
    some σ41)
set_option maxHeartbeats 4000000 in
set_option maxRecDepth 20000 in
theorem c_Mo_casts (Z : ZX) {σ : Mem} {a1 : Int32} {a2 : Int32} {a3 : Int32} {a4 : Int32} {σ' : Mem} (h : f_Mo_casts σ a1 a2 a3 a4 = some σ') : CN Z 1 m_Mo_casts [rf Z 65, .int a1, .int a2, .int a3, .int a4] σ σ' := by
  refine Ct.of (by decide +kernel) (Nat.le_of_ble_eq_true rfl) (fun Y => ?_)
  show V (mkB Z) Y m_Mo_casts 1 (QP (mkB Z) Y nC 0 0 (fun v t => v = none ∧ t = σ')) 0 0 nC σ 0 [(0, rf Z 65), (1, .int a1), (2, .int a2), (3, .int a3), (4, .int a4)] []
  unfold f_Mo_casts at h
  refine V.iload_n d_Mo_casts_0 rfl 2 rfl ?_
  refine V.iload_n d_Mo_casts_1 rfl 3 rfl ?_
  obtain ⟨r2, h1, h⟩ := bnd1_e h
  refine V.sI (as := [.int a2, .int a3]) (st := []) (c_Mo_isIn Z h1) k_Mo_isIn lk_Mo_185 (by decide) rfl rfl (Nat.le_of_ble_eq_true rfl) d_Mo_casts_2 ?_
  refine V.if_ne (tgt := 9) d_Mo_casts_5 (by decide) (fun hc5 => ?_) (fun hc5 => ?_)
  · replace h := ite_f hc5 h
    refine V.sipush (v := 144) d_Mo_casts_9 (by decide) ?_
    refine V.iload_n d_Mo_casts_12 rfl 1 rfl ?_
    refine V.imul d_Mo_casts_13 ?_
    refine V.bipush (v := 12) d_Mo_casts_14 (by decide) ?_
    refine V.iload_n d_Mo_casts_16 rfl 3 rfl ?_
    refine V.imul d_Mo_casts_17 ?_
    refine V.iadd d_Mo_casts_18 ?_
    refine V.iload_n d_Mo_casts_19 rfl 2 rfl ?_
    refine V.iadd d_Mo_casts_20 ?_
    obtain ⟨v21, e_v21, h⟩ := letv_e h
    refine V.topI e_v21 ?_
    refine V.istore (lv' := [(5, .int v21), (0, rf Z 65), (1, .int a1), (2, .int a2), (3, .int a3), (4, .int a4)]) d_Mo_casts_21 (by decide) rfl ?_
    refine V.aload_n d_Mo_casts_23 rfl 1 rfl ?_
    refine V.getR (r := 86) ok_Mo fl_Mo_71 (by decide) (by decide) ly_65 rfl d_Mo_casts_24 ?_
    refine V.iload d_Mo_casts_27 0 rfl ?_
    refine V.aload_n d_Mo_casts_29 rfl 1 rfl ?_
    refine V.getR (r := 86) ok_Mo fl_Mo_71 (by decide) (by decide) ly_65 rfl d_Mo_casts_30 ?_
    refine V.iload d_Mo_casts_33 0 rfl ?_
    obtain ⟨gq, h⟩ := grd_e h
    refine V.ra (by decide) ly_86 (inb_e gq) rfl d_Mo_casts_35 ?_
    refine V.iconst (v := 1) d_Mo_casts_36 (by decide) ?_
    refine V.iload d_Mo_casts_37 5 rfl ?_
    refine V.ishl d_Mo_casts_39 ?_
    refine V.ior d_Mo_casts_40 ?_
    obtain ⟨gq, h⟩ := grd_e h
    obtain ⟨σ41, e_σ41, h⟩ := letv_e h
    refine V.wa (by decide) ly_86 (inb_e gq) rfl d_Mo_casts_41 e_σ41 ?_
    cases h
    exact V.vret rfl d_Mo_casts_42 ⟨rfl, rfl⟩
  · replace h := ite_t hc5 h
    cases h
    exact V.vret rfl d_Mo_casts_8 ⟨rfl, rfl⟩
abbrev m_Mo_castsFar : MI := (⟨"ShadeTownModel", "castsFar", "(IIII)V"⟩, prog_13_method_57_code, 10, (Option.none : Option Jvm.ClassFile.FieldType))
theorem d_Mo_castsFar_0 : decode prog_13_method_57_code 0 = .ok (.aload_n 0, 1) := by decide +kernel
theorem d_Mo_castsFar_1 : decode prog_13_method_57_code 1 = .ok (.getfield 13, 3) := by decide +kernel
theorem d_Mo_castsFar_4 : decode prog_13_method_57_code 4 = .ok (.iload_n 2, 1) := by decide +kernel
theorem d_Mo_castsFar_5 : decode prog_13_method_57_code 5 = .ok (.iaload, 1) := by decide +kernel
theorem d_Mo_castsFar_6 : decode prog_13_method_57_code 6 = .ok (.bipush 12, 2) := by decide +kernel
theorem d_Mo_castsFar_8 : decode prog_13_method_57_code 8 = .ok (.irem, 1) := by decide +kernel
theorem d_Mo_castsFar_9 : decode prog_13_method_57_code 9 = .ok (.istore 5, 2) := by decide +kernel
theorem d_Mo_castsFar_11 : decode prog_13_method_57_code 11 = .ok (.aload_n 0, 1) := by decide +kernel
theorem d_Mo_castsFar_12 : decode prog_13_method_57_code 12 = .ok (.getfield 13, 3) := by decide +kernel
theorem d_Mo_castsFar_15 : decode prog_13_method_57_code 15 = .ok (.iload_n 2, 1) := by decide +kernel
theorem d_Mo_castsFar_16 : decode prog_13_method_57_code 16 = .ok (.iaload, 1) := by decide +kernel
theorem d_Mo_castsFar_17 : decode prog_13_method_57_code 17 = .ok (.bipush 12, 2) := by decide +kernel
theorem d_Mo_castsFar_19 : decode prog_13_method_57_code 19 = .ok (.idiv, 1) := by decide +kernel
theorem d_Mo_castsFar_20 : decode prog_13_method_57_code 20 = .ok (.istore 6, 2) := by decide +kernel
theorem d_Mo_castsFar_22 : decode prog_13_method_57_code 22 = .ok (.iload_n 3, 1) := by decide +kernel
theorem d_Mo_castsFar_23 : decode prog_13_method_57_code 23 = .ok (.invokestatic 336, 3) := by decide +kernel
theorem k_Mo_size : MOk m_Mo_size 1 ∧ Cond.static m_Mo_size.1 ∈ tblG := ⟨⟨atG 1791 (by decide +kernel) rfl, atG 122 (by decide +kernel) rfl, ⟨by decide, by decide⟩, by decide +kernel, by decide⟩, atG 1790 (by decide +kernel) rfl⟩
theorem lk_Mo_336 : Cond.methodLink "ShadeTownModel" 336 ⟨"ShadeTownModel", "size", "(I)I"⟩ ∈ tblG := atG 1789 (by decide +kernel) rfl
theorem d_Mo_castsFar_26 : decode prog_13_method_57_code 26 = .ok (.iload 4, 2) := by decide +kernel
theorem d_Mo_castsFar_28 : decode prog_13_method_57_code 28 = .ok (.invokestatic 336, 3) := by decide +kernel
theorem d_Mo_castsFar_31 : decode prog_13_method_57_code 31 = .ok (.invokestatic 339, 3) := by decide +kernel
theorem k_Mo_max : MOk m_Mo_max 2 ∧ Cond.static m_Mo_max.1 ∈ tblG := ⟨⟨atG 1794 (by decide +kernel) rfl, atG 122 (by decide +kernel) rfl, ⟨by decide, by decide⟩, by decide +kernel, by decide⟩, atG 1793 (by decide +kernel) rfl⟩
theorem lk_Mo_339 : Cond.methodLink "ShadeTownModel" 339 ⟨"ShadeTownModel", "max", "(II)I"⟩ ∈ tblG := atG 1792 (by decide +kernel) rfl
theorem d_Mo_castsFar_34 : decode prog_13_method_57_code 34 = .ok (.istore 7, 2) := by decide +kernel
theorem d_Mo_castsFar_36 : decode prog_13_method_57_code 36 = .ok (.bipush 15, 2) := by decide +kernel
theorem d_Mo_castsFar_38 : decode prog_13_method_57_code 38 = .ok (.iload 7, 2) := by decide +kernel
theorem d_Mo_castsFar_40 : decode prog_13_method_57_code 40 = .ok (.aload_n 0, 1) := by decide +kernel
theorem d_Mo_castsFar_41 : decode prog_13_method_57_code 41 = .ok (.getfield 16, 3) := by decide +kernel
theorem d_Mo_castsFar_44 : decode prog_13_method_57_code 44 = .ok (.iload_n 2, 1) := by decide +kernel
theorem d_Mo_castsFar_45 : decode prog_13_method_57_code 45 = .ok (.iaload, 1) := by decide +kernel
theorem d_Mo_castsFar_46 : decode prog_13_method_57_code 46 = .ok (.imul, 1) := by decide +kernel
theorem d_Mo_castsFar_47 : decode prog_13_method_57_code 47 = .ok (.bipush 12, 2) := by decide +kernel
theorem d_Mo_castsFar_49 : decode prog_13_method_57_code 49 = .ok (.idiv, 1) := by decide +kernel
theorem d_Mo_castsFar_50 : decode prog_13_method_57_code 50 = .ok (.invokestatic 342, 3) := by decide +kernel
theorem k_Mo_min : MOk m_Mo_min 2 ∧ Cond.static m_Mo_min.1 ∈ tblG := ⟨⟨atG 1797 (by decide +kernel) rfl, atG 122 (by decide +kernel) rfl, ⟨by decide, by decide⟩, by decide +kernel, by decide⟩, atG 1796 (by decide +kernel) rfl⟩
theorem lk_Mo_342 : Cond.methodLink "ShadeTownModel" 342 ⟨"ShadeTownModel", "min", "(II)I"⟩ ∈ tblG := atG 1795 (by decide +kernel) rfl
theorem d_Mo_castsFar_53 : decode prog_13_method_57_code 53 = .ok (.istore 8, 2) := by decide +kernel
theorem d_Mo_castsFar_55 : decode prog_13_method_57_code 55 = .ok (.aload_n 0, 1) := by decide +kernel
theorem d_Mo_castsFar_56 : decode prog_13_method_57_code 56 = .ok (.getfield 7, 3) := by decide +kernel
theorem d_Mo_castsFar_59 : decode prog_13_method_57_code 59 = .ok (.iload_n 2, 1) := by decide +kernel
theorem d_Mo_castsFar_60 : decode prog_13_method_57_code 60 = .ok (.iaload, 1) := by decide +kernel
theorem d_Mo_castsFar_61 : decode prog_13_method_57_code 61 = .ok (.iconst 1, 1) := by decide +kernel
theorem d_Mo_castsFar_65 : decode prog_13_method_57_code 65 = .ok (.aload_n 0, 1) := by decide +kernel
theorem d_Mo_castsFar_66 : decode prog_13_method_57_code 66 = .ok (.iload_n 1, 1) := by decide +kernel
theorem d_Mo_castsFar_67 : decode prog_13_method_57_code 67 = .ok (.iload 5, 2) := by decide +kernel
theorem d_Mo_castsFar_69 : decode prog_13_method_57_code 69 = .ok (.iload 6, 2) := by decide +kernel
theorem d_Mo_castsFar_71 : decode prog_13_method_57_code 71 = .ok (.iload_n 2, 1) := by decide +kernel
theorem d_Mo_castsFar_72 : decode prog_13_method_57_code 72 = .ok (.invokevirtual 345, 3) := by decide +kernel
theorem k_Mo_casts : MOk m_Mo_casts 4 ∧ IOk m_Mo_casts := ⟨⟨atG 1784 (by decide +kernel) rfl, atG 122 (by decide +kernel) rfl, ⟨by decide, by decide⟩, by decide +kernel, by decide⟩, atG 1783 (by decide +kernel) rfl, atG 77 (by decide +kernel) rfl⟩
theorem lk_Mo_345 : Cond.methodLink "ShadeTownModel" 345 ⟨"ShadeTownModel", "casts", "(IIII)V"⟩ ∈ tblG := atG 1781 (by decide +kernel) rfl
theorem d_Mo_castsFar_62 : decode prog_13_method_57_code 62 = .ok (.if_icmp .ne 13, 3) := by decide +kernel
theorem d_Mo_castsFar_75 : decode prog_13_method_57_code 75 = .ok (.iconst 1, 1) := by decide +kernel
theorem d_Mo_castsFar_76 : decode prog_13_method_57_code 76 = .ok (.istore 9, 2) := by decide +kernel
theorem d_Mo_castsFar_78 : decode prog_13_method_57_code 78 = .ok (.iload 9, 2) := by decide +kernel
theorem d_Mo_castsFar_80 : decode prog_13_method_57_code 80 = .ok (.iload 8, 2) := by decide +kernel
theorem d_Mo_castsFar_118 : decode prog_13_method_57_code 118 = .ok (.return_, 1) := by decide +kernel
theorem d_Mo_castsFar_85 : decode prog_13_method_57_code 85 = .ok (.aload_n 0, 1) := by decide +kernel
theorem d_Mo_castsFar_86 : decode prog_13_method_57_code 86 = .ok (.iload_n 1, 1) := by decide +kernel
theorem d_Mo_castsFar_87 : decode prog_13_method_57_code 87 = .ok (.iload 5, 2) := by decide +kernel
theorem d_Mo_castsFar_89 : decode prog_13_method_57_code 89 = .ok (.iload_n 3, 1) := by decide +kernel
theorem d_Mo_castsFar_90 : decode prog_13_method_57_code 90 = .ok (.iload 9, 2) := by decide +kernel
theorem d_Mo_castsFar_92 : decode prog_13_method_57_code 92 = .ok (.imul, 1) := by decide +kernel
theorem d_Mo_castsFar_93 : decode prog_13_method_57_code 93 = .ok (.iload 7, 2) := by decide +kernel
theorem d_Mo_castsFar_95 : decode prog_13_method_57_code 95 = .ok (.idiv, 1) := by decide +kernel
theorem d_Mo_castsFar_96 : decode prog_13_method_57_code 96 = .ok (.iadd, 1) := by decide +kernel
theorem d_Mo_castsFar_97 : decode prog_13_method_57_code 97 = .ok (.iload 6, 2) := by decide +kernel
theorem d_Mo_castsFar_99 : decode prog_13_method_57_code 99 = .ok (.iload 4, 2) := by decide +kernel
theorem d_Mo_castsFar_101 : decode prog_13_method_57_code 101 = .ok (.iload 9, 2) := by decide +kernel
theorem d_Mo_castsFar_103 : decode prog_13_method_57_code 103 = .ok (.imul, 1) := by decide +kernel
theorem d_Mo_castsFar_104 : decode prog_13_method_57_code 104 = .ok (.iload 7, 2) := by decide +kernel
theorem d_Mo_castsFar_106 : decode prog_13_method_57_code 106 = .ok (.idiv, 1) := by decide +kernel
theorem d_Mo_castsFar_107 : decode prog_13_method_57_code 107 = .ok (.iadd, 1) := by decide +kernel
theorem d_Mo_castsFar_108 : decode prog_13_method_57_code 108 = .ok (.iload_n 2, 1) := by decide +kernel
theorem d_Mo_castsFar_109 : decode prog_13_method_57_code 109 = .ok (.invokevirtual 345, 3) := by decide +kernel
theorem d_Mo_castsFar_112 : decode prog_13_method_57_code 112 = .ok (.iinc 9 1, 3) := by decide +kernel
theorem d_Mo_castsFar_115 : decode prog_13_method_57_code 115 = .ok (.goto (-37), 3) := by decide +kernel
theorem d_Mo_castsFar_82 : decode prog_13_method_57_code 82 = .ok (.if_icmp .gt 36, 3) := by decide +kernel
def B_Mo_castsFar_l78 (N : Nat) (a1 : Int32) (a2 : Int32) (a3 : Int32) (a4 : Int32) (a5 : Int32) (a6 : Int32) (a7 : Int32) (a8 : Int32) (rec : Int32 → Mem → Option (Mem)) (x9 : Int32) (σ : Mem) : Option (Mem) :=
  if a8 < x9 then
    (some σ)
  else
    (grd (decide (¬ a7 = 0)) <|
    grd (decide (¬ a7 = 0)) <|
    bnd1 (f_Mo_casts σ a1 (a5 + ((a3 * x9) / a7)) (a6 + ((a4 * x9) / a7)) a2) fun σ109 =>
    letv (x9 + 1) fun v112 =>
    rec v112 σ109)
def L_Mo_castsFar_l78 (N : Nat) (a1 : Int32) (a2 : Int32) (a3 : Int32) (a4 : Int32) (a5 : Int32) (a6 : Int32) (a7 : Int32) (a8 : Int32) : Nat → Int32 → Mem → Option (Mem)
  | 0, _, _ => none
  | k + 1, x9, σ => B_Mo_castsFar_l78 N a1 a2 a3 a4 a5 a6 a7 a8 (L_Mo_castsFar_l78 N a1 a2 a3 a4 a5 a6 a7 a8 k) x9 σ
set_option maxHeartbeats 4000000 in
set_option maxRecDepth 20000 in
theorem cL_Mo_castsFar_l78 (Z : ZX) {Y : YX} {post : Option Value → Mem → Prop} {N : Nat} {a1 : Int32} {a2 : Int32} {a3 : Int32} {a4 : Int32} {a5 : Int32} {a6 : Int32} {a7 : Int32} {a8 : Int32} {Good : Mem → Prop} (hR : ∀ (σr : Mem), Good σr → post none σr) : ∀ (k : Nat) (x9 : Int32) (σ : Mem) (res : Mem), L_Mo_castsFar_l78 N a1 a2 a3 a4 a5 a6 a7 a8 k x9 σ = some res → Good res → V (mkB Z) Y m_Mo_castsFar 2 (QP (mkB Z) Y nC 0 0 post) 0 0 nC σ 78 [(0, rf Z 65), (1, .int a1), (2, .int a2), (3, .int a3), (4, .int a4), (5, .int a5), (6, .int a6), (7, .int a7), (8, .int a8), (9, .int x9)] [] := by
  intro k
  induction k with
  | zero => intro x9 σ res h; cases h
  | succ k ih =>
    intro x9 σ res h hg
    replace h : B_Mo_castsFar_l78 N a1 a2 a3 a4 a5 a6 a7 a8 (L_Mo_castsFar_l78 N a1 a2 a3 a4 a5 a6 a7 a8 k) x9 σ = some res := h
    unfold B_Mo_castsFar_l78 at h
    refine V.iload d_Mo_castsFar_78 9 rfl ?_
    refine V.iload d_Mo_castsFar_80 8 rfl ?_
    refine V.icmp_gt (tgt := 118) d_Mo_castsFar_82 (by decide) (fun hc82 => ?_) (fun hc82 => ?_)
    · replace h := ite_t hc82 h
      cases h
      exact V.vret rfl d_Mo_castsFar_118 (hR _ hg)
    · replace h := ite_f hc82 h
      refine V.aload_n d_Mo_castsFar_85 rfl 0 rfl ?_
      refine V.iload_n d_Mo_castsFar_86 rfl 1 rfl ?_
      refine V.iload d_Mo_castsFar_87 5 rfl ?_
      refine V.iload_n d_Mo_castsFar_89 rfl 3 rfl ?_
      refine V.iload d_Mo_castsFar_90 9 rfl ?_
      refine V.imul d_Mo_castsFar_92 ?_
      refine V.iload d_Mo_castsFar_93 7 rfl ?_
      obtain ⟨gq, h⟩ := grd_e h
      refine V.idiv d_Mo_castsFar_95 (of_decide_eq_true gq) ?_
      refine V.iadd d_Mo_castsFar_96 ?_
      refine V.iload d_Mo_castsFar_97 6 rfl ?_
      refine V.iload d_Mo_castsFar_99 4 rfl ?_
      refine V.iload d_Mo_castsFar_101 9 rfl ?_
      refine V.imul d_Mo_castsFar_103 ?_
      refine V.iload d_Mo_castsFar_104 7 rfl ?_
      obtain ⟨gq, h⟩ := grd_e h
      refine V.idiv d_Mo_castsFar_106 (of_decide_eq_true gq) ?_
      refine V.iadd d_Mo_castsFar_107 ?_
      refine V.iload_n d_Mo_castsFar_108 rfl 2 rfl ?_
      obtain ⟨σ109, h1, h⟩ := bnd1_e h
      refine V.vN (as := [.int a1, .int (a5 + ((a3 * x9) / a7)), .int (a6 + ((a4 * x9) / a7)), .int a2]) (st := []) (c_Mo_casts Z h1) k_Mo_casts lk_Mo_345 (by decide) rfl (by decide) ly_65 ok_Mo.1 rfl (Nat.le_of_ble_eq_true rfl) d_Mo_castsFar_109 ?_
      obtain ⟨v112, e_v112, h⟩ := letv_e h
      refine V.iinc (v := v112) (lv' := [(9, .int v112), (0, rf Z 65), (1, .int a1), (2, .int a2), (3, .int a3), (4, .int a4), (5, .int a5), (6, .int a6), (7, .int a7), (8, .int a8)]) d_Mo_castsFar_112 9 rfl (by rw [e_v112]; rfl) (by decide) rfl ?_
      refine V.goto (tgt := 78) d_Mo_castsFar_115 (by decide) ?_
      exact V.pick [1, 2, 3, 4, 5, 6, 7, 8, 9, 0] rfl (ih _ _ _ h hg)
def f_Mo_castsFar (N : Nat) (σ : Mem) (a1 : Int32) (a2 : Int32) (a3 : Int32) (a4 : Int32) : Option (Mem) :=
  grd (inb a2 17) <|
  letv ((mI σ 67 (a2.toNatClampNeg)) - (mI σ 67 (a2.toNatClampNeg)) / 12 * 12) fun v9 =>
  grd (inb a2 17) <|
  letv ((mI σ 67 (a2.toNatClampNeg)) / 12) fun v20 =>
  bnd1 (f_Mo_size a3) fun r23 =>
  bnd1 (f_Mo_size a4) fun r28 =>
  bnd1 (f_Mo_max r23 r28) fun r31 =>
  grd (inb a2 17) <|
  bnd1 (f_Mo_min 15 ((r31 * (mI σ 68 (a2.toNatClampNeg))) / 12)) fun r50 =>
  grd (inb a2 17) <|
  bnd1 ((
    if (mI σ 66 (a2.toNatClampNeg)) = 1 then
      (bnd1 (f_Mo_casts σ a1 v9 v20 a2) fun σ72 =>
      some σ72)
    else
      (some σ)) : Option (Mem)) fun σ62_ =>
  L_Mo_castsFar_l78 N a1 a2 a3 a4 v9 v20 r31 r50 N 1 σ62_
set_option maxHeartbeats 4000000 in
set_option maxRecDepth 20000 in
theorem c_Mo_castsFar (Z : ZX) {N : Nat} {σ : Mem} {a1 : Int32} {a2 : Int32} {a3 : Int32} {a4 : Int32} {σ' : Mem} (h : f_Mo_castsFar N σ a1 a2 a3 a4 = some σ') : CN Z 2 m_Mo_castsFar [rf Z 65, .int a1, .int a2, .int a3, .int a4] σ σ' := by
  refine Ct.of (by decide +kernel) (Nat.le_of_ble_eq_true rfl) (fun Y => ?_)
  show V (mkB Z) Y m_Mo_castsFar 2 (QP (mkB Z) Y nC 0 0 (fun v t => v = none ∧ t = σ')) 0 0 nC σ 0 [(0, rf Z 65), (1, .int a1), (2, .int a2), (3, .int a3), (4, .int a4)] []
  unfold f_Mo_castsFar at h
  refine V.aload_n d_Mo_castsFar_0 rfl 0 rfl ?_
  refine V.getR (r := 67) ok_Mo fl_Mo_13 (by decide) (by decide) ly_65 rfl d_Mo_castsFar_1 ?_
  refine V.iload_n d_Mo_castsFar_4 rfl 2 rfl ?_
  obtain ⟨gq, h⟩ := grd_e h
  refine V.ra (by decide) ly_67 (inb_e gq) rfl d_Mo_castsFar_5 ?_
  refine V.bipush (v := 12) d_Mo_castsFar_6 (by decide) ?_
  refine V.irem d_Mo_castsFar_8 (by decide) ?_
  obtain ⟨v9, e_v9, h⟩ := letv_e h
  refine V.topI e_v9 ?_
  refine V.istore (lv' := [(5, .int v9), (0, rf Z 65), (1, .int a1), (2, .int a2), (3, .int a3), (4, .int a4)]) d_Mo_castsFar_9 (by decide) rfl ?_
  refine V.aload_n d_Mo_castsFar_11 rfl 1 rfl ?_
  refine V.getR (r := 67) ok_Mo fl_Mo_13 (by decide) (by decide) ly_65 rfl d_Mo_castsFar_12 ?_
  refine V.iload_n d_Mo_castsFar_15 rfl 3 rfl ?_
  obtain ⟨gq, h⟩ := grd_e h
  refine V.ra (by decide) ly_67 (inb_e gq) rfl d_Mo_castsFar_16 ?_
  refine V.bipush (v := 12) d_Mo_castsFar_17 (by decide) ?_
  refine V.idiv d_Mo_castsFar_19 (by decide) ?_
  obtain ⟨v20, e_v20, h⟩ := letv_e h
  refine V.topI e_v20 ?_
  refine V.istore (lv' := [(6, .int v20), (5, .int v9), (0, rf Z 65), (1, .int a1), (2, .int a2), (3, .int a3), (4, .int a4)]) d_Mo_castsFar_20 (by decide) rfl ?_
  refine V.iload_n d_Mo_castsFar_22 rfl 5 rfl ?_
  obtain ⟨r23, h1, h⟩ := bnd1_e h
  refine V.sI (as := [.int a3]) (st := []) (c_Mo_size Z h1) k_Mo_size lk_Mo_336 (by decide) rfl rfl (Nat.le_of_ble_eq_true rfl) d_Mo_castsFar_23 ?_
  refine V.iload d_Mo_castsFar_26 6 rfl ?_
  obtain ⟨r28, h1, h⟩ := bnd1_e h
  refine V.sI (as := [.int a4]) (st := [.int r23]) (c_Mo_size Z h1) k_Mo_size lk_Mo_336 (by decide) rfl rfl (Nat.le_of_ble_eq_true rfl) d_Mo_castsFar_28 ?_
  obtain ⟨r31, h1, h⟩ := bnd1_e h
  refine V.sI (as := [.int r23, .int r28]) (st := []) (c_Mo_max Z h1) k_Mo_max lk_Mo_339 (by decide) rfl rfl (Nat.le_of_ble_eq_true rfl) d_Mo_castsFar_31 ?_
  refine V.istore (lv' := [(7, .int r31), (6, .int v20), (5, .int v9), (0, rf Z 65), (1, .int a1), (2, .int a2), (3, .int a3), (4, .int a4)]) d_Mo_castsFar_34 (by decide) rfl ?_
  refine V.bipush (v := 15) d_Mo_castsFar_36 (by decide) ?_
  refine V.iload d_Mo_castsFar_38 0 rfl ?_
  refine V.aload_n d_Mo_castsFar_40 rfl 3 rfl ?_
  refine V.getR (r := 68) ok_Mo fl_Mo_16 (by decide) (by decide) ly_65 rfl d_Mo_castsFar_41 ?_
  refine V.iload_n d_Mo_castsFar_44 rfl 5 rfl ?_
  obtain ⟨gq, h⟩ := grd_e h
  refine V.ra (by decide) ly_68 (inb_e gq) rfl d_Mo_castsFar_45 ?_
  refine V.imul d_Mo_castsFar_46 ?_
  refine V.bipush (v := 12) d_Mo_castsFar_47 (by decide) ?_
  refine V.idiv d_Mo_castsFar_49 (by decide) ?_
  obtain ⟨r50, h1, h⟩ := bnd1_e h
  refine V.sI (as := [.int 15, .int ((r31 * (mI σ 68 (a2.toNatClampNeg))) / 12)]) (st := []) (c_Mo_min Z h1) k_Mo_min lk_Mo_342 (by decide) rfl rfl (Nat.le_of_ble_eq_true rfl) d_Mo_castsFar_50 ?_
  refine V.istore (lv' := [(8, .int r50), (7, .int r31), (6, .int v20), (5, .int v9), (0, rf Z 65), (1, .int a1), (2, .int a2), (3, .int a3), (4, .int a4)]) d_Mo_castsFar_53 (by decide) rfl ?_
  refine V.aload_n d_Mo_castsFar_55 rfl 4 rfl ?_
  refine V.getR (r := 66) ok_Mo fl_Mo_7 (by decide) (by decide) ly_65 rfl d_Mo_castsFar_56 ?_
  refine V.iload_n d_Mo_castsFar_59 rfl 6 rfl ?_
  obtain ⟨gq, h⟩ := grd_e h
  refine V.ra (by decide) ly_66 (inb_e gq) rfl d_Mo_castsFar_60 ?_
  refine V.iconst (v := 1) d_Mo_castsFar_61 (by decide) ?_
  obtain ⟨s62, h1, h⟩ := bnd1_e h
  have J62_75 : ∀ (σ62_ : Mem), s62 = σ62_ → V (mkB Z) Y m_Mo_castsFar 2 (QP (mkB Z) Y nC 0 0 (fun v t => v = none ∧ t = σ')) 0 0 nC σ62_ 75 [(0, rf Z 65), (1, .int a1), (2, .int a2), (3, .int a3), (4, .int a4), (5, .int v9), (6, .int v20), (7, .int r31), (8, .int r50)] [] := by
    intro σ62_ he
    rw [he] at h
    refine V.iconst (v := 1) d_Mo_castsFar_75 (by decide) ?_
    refine V.istore (lv' := [(9, .int 1), (0, rf Z 65), (1, .int a1), (2, .int a2), (3, .int a3), (4, .int a4), (5, .int v9), (6, .int v20), (7, .int r31), (8, .int r50)]) d_Mo_castsFar_76 (by decide) rfl ?_
    refine V.pick [1, 2, 3, 4, 5, 6, 7, 8, 9, 0] rfl (cL_Mo_castsFar_l78 Z (Good := fun z => z = _) (fun r78m he => ?_) N _ _ _ h rfl)
    · cases he
      exact ⟨rfl, rfl⟩
  replace h := h1
  refine V.icmp_ne (tgt := 75) d_Mo_castsFar_62 (by decide) (fun hc62 => ?_) (fun hc62 => ?_)
  · replace h := ite_f hc62 h
    exact V.pick [4, 5, 6, 7, 8, 3, 2, 1, 0] rfl (J62_75 _ (Option.some.inj h).symm)
  · replace h := ite_t hc62 h
    refine V.aload_n d_Mo_castsFar_65 rfl 4 rfl ?_
    refine V.iload_n d_Mo_castsFar_66 rfl 5 rfl ?_
    refine V.iload d_Mo_castsFar_67 3 rfl ?_
    refine V.iload d_Mo_castsFar_69 2 rfl ?_
    refine V.iload_n d_Mo_castsFar_71 rfl 6 rfl ?_
    obtain ⟨σ72, h1, h⟩ := bnd1_e h
    refine V.vN (as := [.int a1, .int v9, .int v20, .int a2]) (st := []) (c_Mo_casts Z h1) k_Mo_casts lk_Mo_345 (by decide) rfl (by decide) ly_65 ok_Mo.1 rfl (Nat.le_of_ble_eq_true rfl) d_Mo_castsFar_72 ?_
    exact V.pick [4, 5, 6, 7, 8, 3, 2, 1, 0] rfl (J62_75 _ (Option.some.inj h).symm)
abbrev m_Mo_acrossOf : MI := (⟨"ShadeTownModel", "acrossOf", "(I)I"⟩, prog_13_method_10_code, 1, (Option.some Jvm.ClassFile.FieldType.int))
theorem d_Mo_acrossOf_0 : decode prog_13_method_10_code 0 = .ok (.iload_n 0, 1) := by decide +kernel
theorem d_Mo_acrossOf_1 : decode prog_13_method_10_code 1 = .ok (.iconst 1, 1) := by decide +kernel
theorem d_Mo_acrossOf_9 : decode prog_13_method_10_code 9 = .ok (.iload_n 0, 1) := by decide +kernel
theorem d_Mo_acrossOf_10 : decode prog_13_method_10_code 10 = .ok (.iconst 3, 1) := by decide +kernel
theorem d_Mo_acrossOf_18 : decode prog_13_method_10_code 18 = .ok (.iconst 0, 1) := by decide +kernel
theorem d_Mo_acrossOf_19 : decode prog_13_method_10_code 19 = .ok (.ireturn, 1) := by decide +kernel
theorem d_Mo_acrossOf_14 : decode prog_13_method_10_code 14 = .ok (.iconst (-1), 1) := by decide +kernel
theorem d_Mo_acrossOf_15 : decode prog_13_method_10_code 15 = .ok (.goto 4, 3) := by decide +kernel
theorem d_Mo_acrossOf_11 : decode prog_13_method_10_code 11 = .ok (.if_icmp .ne 7, 3) := by decide +kernel
theorem d_Mo_acrossOf_5 : decode prog_13_method_10_code 5 = .ok (.iconst 1, 1) := by decide +kernel
theorem d_Mo_acrossOf_6 : decode prog_13_method_10_code 6 = .ok (.goto 13, 3) := by decide +kernel
theorem d_Mo_acrossOf_2 : decode prog_13_method_10_code 2 = .ok (.if_icmp .ne 7, 3) := by decide +kernel
def f_Mo_acrossOf (a0 : Int32) : Option (Int32) :=
  if a0 = 1 then
    (some 1)
  else
    (if a0 = 3 then
      (some (-1))
    else
      (some 0))
set_option maxHeartbeats 4000000 in
set_option maxRecDepth 20000 in
theorem c_Mo_acrossOf (Z : ZX) {σ : Mem} {a0 : Int32} {r : Int32} (h : f_Mo_acrossOf a0 = some r) : CI Z 0 m_Mo_acrossOf [.int a0] σ r σ := by
  refine Ct.of (by decide +kernel) (Nat.le_of_ble_eq_true rfl) (fun Y => ?_)
  show V (mkB Z) Y m_Mo_acrossOf 0 (QP (mkB Z) Y nC 0 0 (fun v t => v = some (.int r) ∧ t = σ)) 0 0 nC σ 0 [(0, .int a0)] []
  unfold f_Mo_acrossOf at h
  refine V.iload_n d_Mo_acrossOf_0 rfl 0 rfl ?_
  refine V.iconst (v := 1) d_Mo_acrossOf_1 (by decide) ?_
  refine V.icmp_ne (tgt := 9) d_Mo_acrossOf_2 (by decide) (fun hc2 => ?_) (fun hc2 => ?_)
  · replace h := ite_f hc2 h
    refine V.iload_n d_Mo_acrossOf_9 rfl 0 rfl ?_
    refine V.iconst (v := 3) d_Mo_acrossOf_10 (by decide) ?_
    refine V.icmp_ne (tgt := 18) d_Mo_acrossOf_11 (by decide) (fun hc11 => ?_) (fun hc11 => ?_)
    · replace h := ite_f hc11 h
      refine V.iconst (v := 0) d_Mo_acrossOf_18 (by decide) ?_
      cases h
      exact V.iret rfl d_Mo_acrossOf_19 ⟨rfl, rfl⟩
    · replace h := ite_t hc11 h
      refine V.iconst (v := (-1)) d_Mo_acrossOf_14 (by decide) ?_
      refine V.goto (tgt := 19) d_Mo_acrossOf_15 (by decide) ?_
      cases h
      exact V.iret rfl d_Mo_acrossOf_19 ⟨rfl, rfl⟩
  · replace h := ite_t hc2 h
    refine V.iconst (v := 1) d_Mo_acrossOf_5 (by decide) ?_
    refine V.goto (tgt := 19) d_Mo_acrossOf_6 (by decide) ?_
    cases h
    exact V.iret rfl d_Mo_acrossOf_19 ⟨rfl, rfl⟩
abbrev m_Mo_upOf : MI := (⟨"ShadeTownModel", "upOf", "(I)I"⟩, prog_13_method_11_code, 1, (Option.some Jvm.ClassFile.FieldType.int))
theorem d_Mo_upOf_0 : decode prog_13_method_11_code 0 = .ok (.iload_n 0, 1) := by decide +kernel
theorem d_Mo_upOf_8 : decode prog_13_method_11_code 8 = .ok (.iload_n 0, 1) := by decide +kernel
theorem d_Mo_upOf_9 : decode prog_13_method_11_code 9 = .ok (.iconst 2, 1) := by decide +kernel
theorem d_Mo_upOf_17 : decode prog_13_method_11_code 17 = .ok (.iconst 0, 1) := by decide +kernel
theorem d_Mo_upOf_18 : decode prog_13_method_11_code 18 = .ok (.ireturn, 1) := by decide +kernel
theorem d_Mo_upOf_13 : decode prog_13_method_11_code 13 = .ok (.iconst (-1), 1) := by decide +kernel
theorem d_Mo_upOf_14 : decode prog_13_method_11_code 14 = .ok (.goto 4, 3) := by decide +kernel
theorem d_Mo_upOf_10 : decode prog_13_method_11_code 10 = .ok (.if_icmp .ne 7, 3) := by decide +kernel
theorem d_Mo_upOf_4 : decode prog_13_method_11_code 4 = .ok (.iconst 1, 1) := by decide +kernel
theorem d_Mo_upOf_5 : decode prog_13_method_11_code 5 = .ok (.goto 13, 3) := by decide +kernel
theorem d_Mo_upOf_1 : decode prog_13_method_11_code 1 = .ok (.ifCond .ne 7, 3) := by decide +kernel
def f_Mo_upOf (a0 : Int32) : Option (Int32) :=
  if a0 = 0 then
    (some 1)
  else
    (if a0 = 2 then
      (some (-1))
    else
      (some 0))
set_option maxHeartbeats 4000000 in
set_option maxRecDepth 20000 in
theorem c_Mo_upOf (Z : ZX) {σ : Mem} {a0 : Int32} {r : Int32} (h : f_Mo_upOf a0 = some r) : CI Z 0 m_Mo_upOf [.int a0] σ r σ := by
  refine Ct.of (by decide +kernel) (Nat.le_of_ble_eq_true rfl) (fun Y => ?_)
  show V (mkB Z) Y m_Mo_upOf 0 (QP (mkB Z) Y nC 0 0 (fun v t => v = some (.int r) ∧ t = σ)) 0 0 nC σ 0 [(0, .int a0)] []
  unfold f_Mo_upOf at h
  refine V.iload_n d_Mo_upOf_0 rfl 0 rfl ?_
  refine V.if_ne (tgt := 8) d_Mo_upOf_1 (by decide) (fun hc1 => ?_) (fun hc1 => ?_)
  · replace h := ite_f hc1 h
    refine V.iload_n d_Mo_upOf_8 rfl 0 rfl ?_
    refine V.iconst (v := 2) d_Mo_upOf_9 (by decide) ?_
    refine V.icmp_ne (tgt := 17) d_Mo_upOf_10 (by decide) (fun hc10 => ?_) (fun hc10 => ?_)
    · replace h := ite_f hc10 h
      refine V.iconst (v := 0) d_Mo_upOf_17 (by decide) ?_
      cases h
      exact V.iret rfl d_Mo_upOf_18 ⟨rfl, rfl⟩
    · replace h := ite_t hc10 h
      refine V.iconst (v := (-1)) d_Mo_upOf_13 (by decide) ?_
      refine V.goto (tgt := 18) d_Mo_upOf_14 (by decide) ?_
      cases h
      exact V.iret rfl d_Mo_upOf_18 ⟨rfl, rfl⟩
  · replace h := ite_t hc1 h
    refine V.iconst (v := 1) d_Mo_upOf_4 (by decide) ?_
    refine V.goto (tgt := 18) d_Mo_upOf_5 (by decide) ?_
    cases h
    exact V.iret rfl d_Mo_upOf_18 ⟨rfl, rfl⟩
