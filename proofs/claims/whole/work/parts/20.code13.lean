abbrev m_Mo_readsFactor : MI := (⟨"ShadeTownModel", "readsFactor", "()Z"⟩, prog_13_method_36_code, 2, (Option.some Jvm.ClassFile.FieldType.boolean))
theorem d_Mo_readsFactor_0 : decode prog_13_method_36_code 0 = .ok (.aload_n 0, 1) := by decide +kernel
theorem d_Mo_readsFactor_1 : decode prog_13_method_36_code 1 = .ok (.invokevirtual 218, 3) := by decide +kernel
theorem d_Mo_readsFactor_4 : decode prog_13_method_36_code 4 = .ok (.bipush 91, 2) := by decide +kernel
theorem d_Mo_readsFactor_9 : decode prog_13_method_36_code 9 = .ok (.aload_n 0, 1) := by decide +kernel
theorem d_Mo_readsFactor_10 : decode prog_13_method_36_code 10 = .ok (.bipush 14, 2) := by decide +kernel
theorem d_Mo_readsFactor_12 : decode prog_13_method_36_code 12 = .ok (.invokevirtual 252, 3) := by decide +kernel
theorem k_Mo_opens : MOk m_Mo_opens 1 ∧ IOk m_Mo_opens := ⟨⟨atG 1661 (by decide +kernel) rfl, atG 122 (by decide +kernel) rfl, ⟨by decide, by decide⟩, by decide +kernel, by decide⟩, atG 1660 (by decide +kernel) rfl, atG 53 (by decide +kernel) rfl⟩
theorem lk_Mo_252 : Cond.methodLink "ShadeTownModel" 252 ⟨"ShadeTownModel", "opens", "(I)Z"⟩ ∈ tblG := atG 1658 (by decide +kernel) rfl
theorem d_Mo_readsFactor_18 : decode prog_13_method_36_code 18 = .ok (.iconst 0, 1) := by decide +kernel
theorem d_Mo_readsFactor_19 : decode prog_13_method_36_code 19 = .ok (.ireturn, 1) := by decide +kernel
theorem d_Mo_readsFactor_15 : decode prog_13_method_36_code 15 = .ok (.ifCond .ne (-15), 3) := by decide +kernel
theorem d_Mo_readsFactor_6 : decode prog_13_method_36_code 6 = .ok (.if_icmp .ne 14, 3) := by decide +kernel
theorem d_Mo_readsFactor_20 : decode prog_13_method_36_code 20 = .ok (.aload_n 0, 1) := by decide +kernel
theorem d_Mo_readsFactor_21 : decode prog_13_method_36_code 21 = .ok (.invokevirtual 231, 3) := by decide +kernel
theorem d_Mo_readsFactor_47 : decode prog_13_method_36_code 47 = .ok (.aload_n 0, 1) := by decide +kernel
theorem d_Mo_readsFactor_48 : decode prog_13_method_36_code 48 = .ok (.invokevirtual 218, 3) := by decide +kernel
theorem d_Mo_readsFactor_51 : decode prog_13_method_36_code 51 = .ok (.invokestatic 258, 3) := by decide +kernel
theorem k_Mo_factOf : MOk m_Mo_factOf 1 ∧ Cond.static m_Mo_factOf.1 ∈ tblG := ⟨⟨atG 1677 (by decide +kernel) rfl, atG 122 (by decide +kernel) rfl, ⟨by decide, by decide⟩, by decide +kernel, by decide⟩, atG 1676 (by decide +kernel) rfl⟩
theorem lk_Mo_258 : Cond.methodLink "ShadeTownModel" 258 ⟨"ShadeTownModel", "factOf", "(I)I"⟩ ∈ tblG := atG 1675 (by decide +kernel) rfl
theorem d_Mo_readsFactor_54 : decode prog_13_method_36_code 54 = .ok (.istore_n 1, 1) := by decide +kernel
theorem d_Mo_readsFactor_55 : decode prog_13_method_36_code 55 = .ok (.iload_n 1, 1) := by decide +kernel
theorem d_Mo_readsFactor_56 : decode prog_13_method_36_code 56 = .ok (.iconst (-1), 1) := by decide +kernel
theorem d_Mo_readsFactor_70 : decode prog_13_method_36_code 70 = .ok (.aload_n 0, 1) := by decide +kernel
theorem d_Mo_readsFactor_71 : decode prog_13_method_36_code 71 = .ok (.iconst 1, 1) := by decide +kernel
theorem d_Mo_readsFactor_72 : decode prog_13_method_36_code 72 = .ok (.iload_n 1, 1) := by decide +kernel
theorem d_Mo_readsFactor_73 : decode prog_13_method_36_code 73 = .ok (.invokevirtual 248, 3) := by decide +kernel
theorem k_Mo_notes : MOk m_Mo_notes 2 ∧ IOk m_Mo_notes := ⟨⟨atG 1674 (by decide +kernel) rfl, atG 122 (by decide +kernel) rfl, ⟨by decide, by decide⟩, by decide +kernel, by decide⟩, atG 1673 (by decide +kernel) rfl, atG 56 (by decide +kernel) rfl⟩
theorem lk_Mo_248 : Cond.methodLink "ShadeTownModel" 248 ⟨"ShadeTownModel", "notes", "(II)V"⟩ ∈ tblG := atG 1671 (by decide +kernel) rfl
theorem d_Mo_readsFactor_76 : decode prog_13_method_36_code 76 = .ok (.aload_n 0, 1) := by decide +kernel
theorem d_Mo_readsFactor_77 : decode prog_13_method_36_code 77 = .ok (.aload_n 0, 1) := by decide +kernel
theorem d_Mo_readsFactor_78 : decode prog_13_method_36_code 78 = .ok (.getfield 212, 3) := by decide +kernel
theorem d_Mo_readsFactor_81 : decode prog_13_method_36_code 81 = .ok (.iconst 1, 1) := by decide +kernel
theorem d_Mo_readsFactor_82 : decode prog_13_method_36_code 82 = .ok (.iadd, 1) := by decide +kernel
theorem d_Mo_readsFactor_83 : decode prog_13_method_36_code 83 = .ok (.putfield 212, 3) := by decide +kernel
theorem d_Mo_readsFactor_86 : decode prog_13_method_36_code 86 = .ok (.iconst 1, 1) := by decide +kernel
theorem d_Mo_readsFactor_87 : decode prog_13_method_36_code 87 = .ok (.ireturn, 1) := by decide +kernel
theorem d_Mo_readsFactor_60 : decode prog_13_method_36_code 60 = .ok (.aload_n 0, 1) := by decide +kernel
theorem d_Mo_readsFactor_61 : decode prog_13_method_36_code 61 = .ok (.iconst 1, 1) := by decide +kernel
theorem d_Mo_readsFactor_62 : decode prog_13_method_36_code 62 = .ok (.aload_n 0, 1) := by decide +kernel
theorem d_Mo_readsFactor_63 : decode prog_13_method_36_code 63 = .ok (.getfield 212, 3) := by decide +kernel
theorem d_Mo_readsFactor_66 : decode prog_13_method_36_code 66 = .ok (.invokevirtual 225, 3) := by decide +kernel
theorem d_Mo_readsFactor_69 : decode prog_13_method_36_code 69 = .ok (.ireturn, 1) := by decide +kernel
theorem d_Mo_readsFactor_57 : decode prog_13_method_36_code 57 = .ok (.if_icmp .ne 13, 3) := by decide +kernel
theorem d_Mo_readsFactor_27 : decode prog_13_method_36_code 27 = .ok (.aload_n 0, 1) := by decide +kernel
theorem d_Mo_readsFactor_28 : decode prog_13_method_36_code 28 = .ok (.invokevirtual 255, 3) := by decide +kernel
theorem k_Mo_readsNumber : MOk m_Mo_readsNumber 0 ∧ IOk m_Mo_readsNumber := ⟨⟨atG 1670 (by decide +kernel) rfl, atG 122 (by decide +kernel) rfl, ⟨by decide, by decide⟩, by decide +kernel, by decide⟩, atG 1669 (by decide +kernel) rfl, atG 55 (by decide +kernel) rfl⟩
theorem lk_Mo_255 : Cond.methodLink "ShadeTownModel" 255 ⟨"ShadeTownModel", "readsNumber", "()Z"⟩ ∈ tblG := atG 1667 (by decide +kernel) rfl
theorem d_Mo_readsFactor_36 : decode prog_13_method_36_code 36 = .ok (.aload_n 0, 1) := by decide +kernel
theorem d_Mo_readsFactor_37 : decode prog_13_method_36_code 37 = .ok (.iconst 0, 1) := by decide +kernel
theorem d_Mo_readsFactor_38 : decode prog_13_method_36_code 38 = .ok (.aload_n 0, 1) := by decide +kernel
theorem d_Mo_readsFactor_39 : decode prog_13_method_36_code 39 = .ok (.getfield 228, 3) := by decide +kernel
theorem d_Mo_readsFactor_42 : decode prog_13_method_36_code 42 = .ok (.invokevirtual 248, 3) := by decide +kernel
theorem d_Mo_readsFactor_45 : decode prog_13_method_36_code 45 = .ok (.iconst 1, 1) := by decide +kernel
theorem d_Mo_readsFactor_46 : decode prog_13_method_36_code 46 = .ok (.ireturn, 1) := by decide +kernel
theorem d_Mo_readsFactor_34 : decode prog_13_method_36_code 34 = .ok (.iconst 0, 1) := by decide +kernel
theorem d_Mo_readsFactor_35 : decode prog_13_method_36_code 35 = .ok (.ireturn, 1) := by decide +kernel
theorem d_Mo_readsFactor_31 : decode prog_13_method_36_code 31 = .ok (.ifCond .ne 5, 3) := by decide +kernel
theorem d_Mo_readsFactor_24 : decode prog_13_method_36_code 24 = .ok (.ifCond .eq 23, 3) := by decide +kernel
def B_Mo_readsFactor_l0 (N : Nat) (rec : Mem → Option ((Int32 × Mem) ⊕ (Mem))) (σ : Mem) : Option ((Int32 × Mem) ⊕ (Mem)) :=
  bnd1 (f_Mo_here σ) fun r1 =>
  if r1 = 91 then
    (bnd2 (f_Mo_opens σ 14) fun r12 σ12 =>
    if r12 = 0 then
      (some (.inl (0, σ12)))
    else
      (rec σ12))
  else
    (some (.inr σ))
def L_Mo_readsFactor_l0 (N : Nat) : Nat → Mem → Option ((Int32 × Mem) ⊕ (Mem))
  | 0, _ => none
  | k + 1, σ => B_Mo_readsFactor_l0 N (L_Mo_readsFactor_l0 N k) σ
set_option maxHeartbeats 4000000 in
set_option maxRecDepth 20000 in
theorem cL_Mo_readsFactor_l0 (Z : ZX) {Y : YX} {post : Option Value → Mem → Prop} {N : Nat} {Good : (Int32 × Mem) ⊕ (Mem) → Prop} (hE : ∀ (σe : Mem), Good (.inr σe) → V (mkB Z) Y m_Mo_readsFactor 3 (QP (mkB Z) Y nC 0 0 post) 0 0 nC σe 20 [(0, rf Z 65)] []) (hR : ∀ (v : Int32) (σr : Mem), Good (.inl (v, σr)) → post (some (.int v)) σr) : ∀ (k : Nat) (σ : Mem) (res : (Int32 × Mem) ⊕ (Mem)), L_Mo_readsFactor_l0 N k σ = some res → Good res → V (mkB Z) Y m_Mo_readsFactor 3 (QP (mkB Z) Y nC 0 0 post) 0 0 nC σ 0 [(0, rf Z 65)] [] := by
  intro k
  induction k with
  | zero => intro σ res h; cases h
  | succ k ih =>
    intro σ res h hg
    replace h : B_Mo_readsFactor_l0 N (L_Mo_readsFactor_l0 N k) σ = some res := h
    unfold B_Mo_readsFactor_l0 at h
    refine V.aload_n d_Mo_readsFactor_0 rfl 0 rfl ?_
    obtain ⟨r1, h1, h⟩ := bnd1_e h
    refine V.vI (as := []) (st := []) (c_Mo_here Z h1) k_Mo_here lk_Mo_218 (by decide) rfl (by decide) ly_65 ok_Mo.1 rfl (Nat.le_of_ble_eq_true rfl) d_Mo_readsFactor_1 ?_
    refine V.bipush (v := 91) d_Mo_readsFactor_4 (by decide) ?_
    refine V.icmp_ne (tgt := 20) d_Mo_readsFactor_6 (by decide) (fun hc6 => ?_) (fun hc6 => ?_)
    · replace h := ite_f hc6 h
      cases h
      exact V.pick [0] rfl (hE _ hg)
    · replace h := ite_t hc6 h
      refine V.aload_n d_Mo_readsFactor_9 rfl 0 rfl ?_
      refine V.bipush (v := 14) d_Mo_readsFactor_10 (by decide) ?_
      obtain ⟨r12, σ12, h1, h⟩ := bnd2_e h
      refine V.vI (as := [.int 14]) (st := []) (c_Mo_opens Z h1) k_Mo_opens lk_Mo_252 (by decide) rfl (by decide) ly_65 ok_Mo.1 rfl (Nat.le_of_ble_eq_true rfl) d_Mo_readsFactor_12 ?_
      refine V.if_ne (tgt := 0) d_Mo_readsFactor_15 (by decide) (fun hc15 => ?_) (fun hc15 => ?_)
      · replace h := ite_f hc15 h
        exact V.pick [0] rfl (ih _ _ h hg)
      · replace h := ite_t hc15 h
        refine V.iconst (v := 0) d_Mo_readsFactor_18 (by decide) ?_
        cases h
        exact V.zret rfl rfl d_Mo_readsFactor_19 (hR _ _ hg)
def f_Mo_readsFactor (N : Nat) (σ : Mem) : Option (Int32 × Mem) :=
  bnd1 (L_Mo_readsFactor_l0 N N σ) fun x0_ =>
  sm x0_ (fun r0_ => some r0_) fun σ0_ =>
  bnd1 (f_Mo_isDigit σ0_) fun r21 =>
  if r21 = 0 then
    (bnd1 (f_Mo_here σ0_) fun r48 =>
    bnd1 (f_Mo_factOf r48) fun r51 =>
    if r51 = (-1) then
      (bnd2 (f_Mo_wrongAt σ0_ 1 (mI σ0_ 65 12)) fun r66 σ66 =>
      grd (decide (r66 &&& 1 = r66)) (some (r66, σ66)))
    else
      (bnd1 (f_Mo_notes σ0_ 1 r51) fun σ73 =>
      letv (sI σ73 65 12 ((mI σ73 65 12) + 1)) fun σ83 =>
      some (1, σ83)))
  else
    (bnd2 (f_Mo_readsNumber N σ0_) fun r28 σ28 =>
    if r28 = 0 then
      (some (0, σ28))
    else
      (bnd1 (f_Mo_notes σ28 0 (mI σ28 65 19)) fun σ42 =>
      some (1, σ42)))
set_option maxHeartbeats 4000000 in
set_option maxRecDepth 20000 in
theorem c_Mo_readsFactor (Z : ZX) {N : Nat} {σ : Mem} {r : Int32} {σ' : Mem} (h : f_Mo_readsFactor N σ = some (r, σ')) : CI Z 3 m_Mo_readsFactor [rf Z 65] σ r σ' := by
  refine Ct.of (by decide +kernel) (Nat.le_of_ble_eq_true rfl) (fun Y => ?_)
  show V (mkB Z) Y m_Mo_readsFactor 3 (QP (mkB Z) Y nC 0 0 (fun v t => v = some (.int r) ∧ t = σ')) 0 0 nC σ 0 [(0, rf Z 65)] []
  unfold f_Mo_readsFactor at h
  obtain ⟨x0_, h1, h⟩ := bnd1_e h
  refine V.pick [0] rfl (cL_Mo_readsFactor_l0 Z (Good := fun z => x0_ = z) (fun σ0_ he => ?_) (fun r0v r0m he => ?_) N  _ _ h1 rfl)
  · rw [he] at h
    replace h := sm_r h
    refine V.aload_n d_Mo_readsFactor_20 rfl 0 rfl ?_
    obtain ⟨r21, h1, h⟩ := bnd1_e h
    refine V.vI (as := []) (st := []) (c_Mo_isDigit Z h1) k_Mo_isDigit lk_Mo_231 (by decide) rfl (by decide) ly_65 ok_Mo.1 rfl (Nat.le_of_ble_eq_true rfl) d_Mo_readsFactor_21 ?_
    refine V.if_eq (tgt := 47) d_Mo_readsFactor_24 (by decide) (fun hc24 => ?_) (fun hc24 => ?_)
    · replace h := ite_t hc24 h
      refine V.aload_n d_Mo_readsFactor_47 rfl 0 rfl ?_
      obtain ⟨r48, h1, h⟩ := bnd1_e h
      refine V.vI (as := []) (st := []) (c_Mo_here Z h1) k_Mo_here lk_Mo_218 (by decide) rfl (by decide) ly_65 ok_Mo.1 rfl (Nat.le_of_ble_eq_true rfl) d_Mo_readsFactor_48 ?_
      obtain ⟨r51, h1, h⟩ := bnd1_e h
      refine V.sI (as := [.int r48]) (st := []) (c_Mo_factOf Z h1) k_Mo_factOf lk_Mo_258 (by decide) rfl rfl (Nat.le_of_ble_eq_true rfl) d_Mo_readsFactor_51 ?_
      refine V.istore_n (lv' := [(1, .int r51), (0, rf Z 65)]) d_Mo_readsFactor_54 rfl (by decide) rfl ?_
      refine V.iload_n d_Mo_readsFactor_55 rfl 0 rfl ?_
      refine V.iconst (v := (-1)) d_Mo_readsFactor_56 (by decide) ?_
      refine V.icmp_ne (tgt := 70) d_Mo_readsFactor_57 (by decide) (fun hc57 => ?_) (fun hc57 => ?_)
      · replace h := ite_f hc57 h
        refine V.aload_n d_Mo_readsFactor_70 rfl 1 rfl ?_
        refine V.iconst (v := 1) d_Mo_readsFactor_71 (by decide) ?_
        refine V.iload_n d_Mo_readsFactor_72 rfl 0 rfl ?_
        obtain ⟨σ73, h1, h⟩ := bnd1_e h
        refine V.vN (as := [.int 1, .int r51]) (st := []) (c_Mo_notes Z h1) k_Mo_notes lk_Mo_248 (by decide) rfl (by decide) ly_65 ok_Mo.1 rfl (Nat.le_of_ble_eq_true rfl) d_Mo_readsFactor_73 ?_
        refine V.aload_n d_Mo_readsFactor_76 rfl 1 rfl ?_
        refine V.aload_n d_Mo_readsFactor_77 rfl 1 rfl ?_
        refine V.getI ok_Mo fl_Mo_212 (by decide) (by decide) ly_65 rfl d_Mo_readsFactor_78 ?_
        refine V.iconst (v := 1) d_Mo_readsFactor_81 (by decide) ?_
        refine V.iadd d_Mo_readsFactor_82 ?_
        obtain ⟨σ83, e_σ83, h⟩ := letv_e h
        refine V.putI ok_Mo fl_Mo_212 (by decide) (by decide) ly_65 rfl rfl rfl rfl d_Mo_readsFactor_83 (V.mem e_σ83 ?_)
        refine V.iconst (v := 1) d_Mo_readsFactor_86 (by decide) ?_
        cases h
        exact V.zret rfl rfl d_Mo_readsFactor_87 ⟨rfl, rfl⟩
      · replace h := ite_t hc57 h
        refine V.aload_n d_Mo_readsFactor_60 rfl 1 rfl ?_
        refine V.iconst (v := 1) d_Mo_readsFactor_61 (by decide) ?_
        refine V.aload_n d_Mo_readsFactor_62 rfl 1 rfl ?_
        refine V.getI ok_Mo fl_Mo_212 (by decide) (by decide) ly_65 rfl d_Mo_readsFactor_63 ?_
        obtain ⟨r66, σ66, h1, h⟩ := bnd2_e h
        refine V.vI (as := [.int 1, .int (mI σ0_ 65 12)]) (st := []) (c_Mo_wrongAt Z h1) k_Mo_wrongAt lk_Mo_225 (by decide) rfl (by decide) ly_65 ok_Mo.1 rfl (Nat.le_of_ble_eq_true rfl) d_Mo_readsFactor_66 ?_
        obtain ⟨hz, h⟩ := grd_e h
        have hz := congrArg Value.int (of_decide_eq_true hz)
        cases h
        exact V.zret rfl hz d_Mo_readsFactor_69 ⟨rfl, rfl⟩
    · replace h := ite_f hc24 h
      refine V.aload_n d_Mo_readsFactor_27 rfl 0 rfl ?_
      obtain ⟨r28, σ28, h1, h⟩ := bnd2_e h
      refine V.vI (as := []) (st := []) (c_Mo_readsNumber Z h1) k_Mo_readsNumber lk_Mo_255 (by decide) rfl (by decide) ly_65 ok_Mo.1 rfl (Nat.le_of_ble_eq_true rfl) d_Mo_readsFactor_28 ?_
      refine V.if_ne (tgt := 36) d_Mo_readsFactor_31 (by decide) (fun hc31 => ?_) (fun hc31 => ?_)
      · replace h := ite_f hc31 h
        refine V.aload_n d_Mo_readsFactor_36 rfl 0 rfl ?_
        refine V.iconst (v := 0) d_Mo_readsFactor_37 (by decide) ?_
        refine V.aload_n d_Mo_readsFactor_38 rfl 0 rfl ?_
        refine V.getI ok_Mo fl_Mo_228 (by decide) (by decide) ly_65 rfl d_Mo_readsFactor_39 ?_
        obtain ⟨σ42, h1, h⟩ := bnd1_e h
        refine V.vN (as := [.int 0, .int (mI σ28 65 19)]) (st := []) (c_Mo_notes Z h1) k_Mo_notes lk_Mo_248 (by decide) rfl (by decide) ly_65 ok_Mo.1 rfl (Nat.le_of_ble_eq_true rfl) d_Mo_readsFactor_42 ?_
        refine V.iconst (v := 1) d_Mo_readsFactor_45 (by decide) ?_
        cases h
        exact V.zret rfl rfl d_Mo_readsFactor_46 ⟨rfl, rfl⟩
      · replace h := ite_t hc31 h
        refine V.iconst (v := 0) d_Mo_readsFactor_34 (by decide) ?_
        cases h
        exact V.zret rfl rfl d_Mo_readsFactor_35 ⟨rfl, rfl⟩
  · rw [he] at h
    replace h := sm_l h
    cases h
    exact ⟨rfl, rfl⟩
abbrev m_Mo_sumSign : MI := (⟨"ShadeTownModel", "sumSign", "(I)I"⟩, prog_13_method_34_code, 1, (Option.some Jvm.ClassFile.FieldType.int))
theorem d_Mo_sumSign_0 : decode prog_13_method_34_code 0 = .ok (.iload_n 0, 1) := by decide +kernel
theorem d_Mo_sumSign_1 : decode prog_13_method_34_code 1 = .ok (.bipush 43, 2) := by decide +kernel
theorem d_Mo_sumSign_10 : decode prog_13_method_34_code 10 = .ok (.iload_n 0, 1) := by decide +kernel
theorem d_Mo_sumSign_11 : decode prog_13_method_34_code 11 = .ok (.bipush 45, 2) := by decide +kernel
theorem d_Mo_sumSign_20 : decode prog_13_method_34_code 20 = .ok (.iload_n 0, 1) := by decide +kernel
theorem d_Mo_sumSign_21 : decode prog_13_method_34_code 21 = .ok (.bipush 42, 2) := by decide +kernel
theorem d_Mo_sumSign_30 : decode prog_13_method_34_code 30 = .ok (.iload_n 0, 1) := by decide +kernel
theorem d_Mo_sumSign_31 : decode prog_13_method_34_code 31 = .ok (.bipush 47, 2) := by decide +kernel
theorem d_Mo_sumSign_40 : decode prog_13_method_34_code 40 = .ok (.iload_n 0, 1) := by decide +kernel
theorem d_Mo_sumSign_41 : decode prog_13_method_34_code 41 = .ok (.bipush 37, 2) := by decide +kernel
theorem d_Mo_sumSign_51 : decode prog_13_method_34_code 51 = .ok (.iconst (-1), 1) := by decide +kernel
theorem d_Mo_sumSign_52 : decode prog_13_method_34_code 52 = .ok (.ireturn, 1) := by decide +kernel
theorem d_Mo_sumSign_46 : decode prog_13_method_34_code 46 = .ok (.bipush 6, 2) := by decide +kernel
theorem d_Mo_sumSign_48 : decode prog_13_method_34_code 48 = .ok (.goto 4, 3) := by decide +kernel
theorem d_Mo_sumSign_43 : decode prog_13_method_34_code 43 = .ok (.if_icmp .ne 8, 3) := by decide +kernel
theorem d_Mo_sumSign_36 : decode prog_13_method_34_code 36 = .ok (.iconst 5, 1) := by decide +kernel
theorem d_Mo_sumSign_37 : decode prog_13_method_34_code 37 = .ok (.goto 15, 3) := by decide +kernel
theorem d_Mo_sumSign_33 : decode prog_13_method_34_code 33 = .ok (.if_icmp .ne 7, 3) := by decide +kernel
theorem d_Mo_sumSign_26 : decode prog_13_method_34_code 26 = .ok (.iconst 4, 1) := by decide +kernel
theorem d_Mo_sumSign_27 : decode prog_13_method_34_code 27 = .ok (.goto 25, 3) := by decide +kernel
theorem d_Mo_sumSign_23 : decode prog_13_method_34_code 23 = .ok (.if_icmp .ne 7, 3) := by decide +kernel
theorem d_Mo_sumSign_16 : decode prog_13_method_34_code 16 = .ok (.iconst 3, 1) := by decide +kernel
theorem d_Mo_sumSign_17 : decode prog_13_method_34_code 17 = .ok (.goto 35, 3) := by decide +kernel
theorem d_Mo_sumSign_13 : decode prog_13_method_34_code 13 = .ok (.if_icmp .ne 7, 3) := by decide +kernel
theorem d_Mo_sumSign_6 : decode prog_13_method_34_code 6 = .ok (.iconst 2, 1) := by decide +kernel
theorem d_Mo_sumSign_7 : decode prog_13_method_34_code 7 = .ok (.goto 45, 3) := by decide +kernel
theorem d_Mo_sumSign_3 : decode prog_13_method_34_code 3 = .ok (.if_icmp .ne 7, 3) := by decide +kernel
def f_Mo_sumSign (a0 : Int32) : Option (Int32) :=
  if a0 = 43 then
    (some 2)
  else
    (if a0 = 45 then
      (some 3)
    else
      (if a0 = 42 then
        (some 4)
      else
        (if a0 = 47 then
          (some 5)
        else
          (if a0 = 37 then
            (some 6)
          else
            (some (-1))))))
set_option maxHeartbeats 4000000 in
set_option maxRecDepth 20000 in
theorem c_Mo_sumSign (Z : ZX) {σ : Mem} {a0 : Int32} {r : Int32} (h : f_Mo_sumSign a0 = some r) : CI Z 0 m_Mo_sumSign [.int a0] σ r σ := by
  refine Ct.of (by decide +kernel) (Nat.le_of_ble_eq_true rfl) (fun Y => ?_)
  show V (mkB Z) Y m_Mo_sumSign 0 (QP (mkB Z) Y nC 0 0 (fun v t => v = some (.int r) ∧ t = σ)) 0 0 nC σ 0 [(0, .int a0)] []
  unfold f_Mo_sumSign at h
  refine V.iload_n d_Mo_sumSign_0 rfl 0 rfl ?_
  refine V.bipush (v := 43) d_Mo_sumSign_1 (by decide) ?_
  refine V.icmp_ne (tgt := 10) d_Mo_sumSign_3 (by decide) (fun hc3 => ?_) (fun hc3 => ?_)
  · replace h := ite_f hc3 h
    refine V.iload_n d_Mo_sumSign_10 rfl 0 rfl ?_
    refine V.bipush (v := 45) d_Mo_sumSign_11 (by decide) ?_
    refine V.icmp_ne (tgt := 20) d_Mo_sumSign_13 (by decide) (fun hc13 => ?_) (fun hc13 => ?_)
    · replace h := ite_f hc13 h
      refine V.iload_n d_Mo_sumSign_20 rfl 0 rfl ?_
      refine V.bipush (v := 42) d_Mo_sumSign_21 (by decide) ?_
      refine V.icmp_ne (tgt := 30) d_Mo_sumSign_23 (by decide) (fun hc23 => ?_) (fun hc23 => ?_)
      · replace h := ite_f hc23 h
        refine V.iload_n d_Mo_sumSign_30 rfl 0 rfl ?_
        refine V.bipush (v := 47) d_Mo_sumSign_31 (by decide) ?_
        refine V.icmp_ne (tgt := 40) d_Mo_sumSign_33 (by decide) (fun hc33 => ?_) (fun hc33 => ?_)
        · replace h := ite_f hc33 h
          refine V.iload_n d_Mo_sumSign_40 rfl 0 rfl ?_
          refine V.bipush (v := 37) d_Mo_sumSign_41 (by decide) ?_
          refine V.icmp_ne (tgt := 51) d_Mo_sumSign_43 (by decide) (fun hc43 => ?_) (fun hc43 => ?_)
          · replace h := ite_f hc43 h
            refine V.iconst (v := (-1)) d_Mo_sumSign_51 (by decide) ?_
            cases h
            exact V.iret rfl d_Mo_sumSign_52 ⟨rfl, rfl⟩
          · replace h := ite_t hc43 h
            refine V.bipush (v := 6) d_Mo_sumSign_46 (by decide) ?_
            refine V.goto (tgt := 52) d_Mo_sumSign_48 (by decide) ?_
            cases h
            exact V.iret rfl d_Mo_sumSign_52 ⟨rfl, rfl⟩
        · replace h := ite_t hc33 h
          refine V.iconst (v := 5) d_Mo_sumSign_36 (by decide) ?_
          refine V.goto (tgt := 52) d_Mo_sumSign_37 (by decide) ?_
          cases h
          exact V.iret rfl d_Mo_sumSign_52 ⟨rfl, rfl⟩
      · replace h := ite_t hc23 h
        refine V.iconst (v := 4) d_Mo_sumSign_26 (by decide) ?_
        refine V.goto (tgt := 52) d_Mo_sumSign_27 (by decide) ?_
        cases h
        exact V.iret rfl d_Mo_sumSign_52 ⟨rfl, rfl⟩
    · replace h := ite_t hc13 h
      refine V.iconst (v := 3) d_Mo_sumSign_16 (by decide) ?_
      refine V.goto (tgt := 52) d_Mo_sumSign_17 (by decide) ?_
      cases h
      exact V.iret rfl d_Mo_sumSign_52 ⟨rfl, rfl⟩
  · replace h := ite_t hc3 h
    refine V.iconst (v := 2) d_Mo_sumSign_6 (by decide) ?_
    refine V.goto (tgt := 52) d_Mo_sumSign_7 (by decide) ?_
    cases h
    exact V.iret rfl d_Mo_sumSign_52 ⟨rfl, rfl⟩
abbrev m_Mo_hasOpenSum : MI := (⟨"ShadeTownModel", "hasOpenSum", "(I)Z"⟩, prog_13_method_37_code, 3, (Option.some Jvm.ClassFile.FieldType.boolean))
theorem d_Mo_hasOpenSum_0 : decode prog_13_method_37_code 0 = .ok (.iload_n 1, 1) := by decide +kernel
theorem d_Mo_hasOpenSum_1 : decode prog_13_method_37_code 1 = .ok (.istore_n 2, 1) := by decide +kernel
theorem d_Mo_hasOpenSum_2 : decode prog_13_method_37_code 2 = .ok (.iload_n 2, 1) := by decide +kernel
theorem d_Mo_hasOpenSum_3 : decode prog_13_method_37_code 3 = .ok (.aload_n 0, 1) := by decide +kernel
theorem d_Mo_hasOpenSum_4 : decode prog_13_method_37_code 4 = .ok (.getfield 242, 3) := by decide +kernel
theorem d_Mo_hasOpenSum_32 : decode prog_13_method_37_code 32 = .ok (.iconst 0, 1) := by decide +kernel
theorem d_Mo_hasOpenSum_33 : decode prog_13_method_37_code 33 = .ok (.ireturn, 1) := by decide +kernel
theorem d_Mo_hasOpenSum_10 : decode prog_13_method_37_code 10 = .ok (.aload_n 0, 1) := by decide +kernel
theorem d_Mo_hasOpenSum_11 : decode prog_13_method_37_code 11 = .ok (.getfield 35, 3) := by decide +kernel
theorem d_Mo_hasOpenSum_14 : decode prog_13_method_37_code 14 = .ok (.iload_n 2, 1) := by decide +kernel
theorem d_Mo_hasOpenSum_15 : decode prog_13_method_37_code 15 = .ok (.iaload, 1) := by decide +kernel
theorem d_Mo_hasOpenSum_16 : decode prog_13_method_37_code 16 = .ok (.ldc 238, 2) := by decide +kernel
theorem d_Mo_hasOpenSum_18 : decode prog_13_method_37_code 18 = .ok (.idiv, 1) := by decide +kernel
theorem d_Mo_hasOpenSum_19 : decode prog_13_method_37_code 19 = .ok (.bipush 14, 2) := by decide +kernel
theorem d_Mo_hasOpenSum_26 : decode prog_13_method_37_code 26 = .ok (.iinc 2 1, 3) := by decide +kernel
theorem d_Mo_hasOpenSum_29 : decode prog_13_method_37_code 29 = .ok (.goto (-27), 3) := by decide +kernel
theorem d_Mo_hasOpenSum_24 : decode prog_13_method_37_code 24 = .ok (.iconst 1, 1) := by decide +kernel
theorem d_Mo_hasOpenSum_25 : decode prog_13_method_37_code 25 = .ok (.ireturn, 1) := by decide +kernel
theorem d_Mo_hasOpenSum_21 : decode prog_13_method_37_code 21 = .ok (.if_icmp .ne 5, 3) := by decide +kernel
theorem d_Mo_hasOpenSum_7 : decode prog_13_method_37_code 7 = .ok (.if_icmp .ge 25, 3) := by decide +kernel
def B_Mo_hasOpenSum_l2 (N : Nat) (σ : Mem) (rec : Int32 → Option (Int32)) (x2 : Int32) : Option (Int32) :=
  if (mI σ 65 17) ≤ x2 then
    (some 0)
  else
    (grd (inb x2 260) <|
    if (mI σ 74 (x2.toNatClampNeg)) / 1048576 = 14 then
      (some 1)
    else
      (letv (x2 + 1) fun v26 =>
      rec v26))
def L_Mo_hasOpenSum_l2 (N : Nat) (σ : Mem) : Nat → Int32 → Option (Int32)
  | 0, _ => none
  | k + 1, x2 => B_Mo_hasOpenSum_l2 N σ (L_Mo_hasOpenSum_l2 N σ k) x2
set_option maxHeartbeats 4000000 in
set_option maxRecDepth 20000 in
theorem cL_Mo_hasOpenSum_l2 (Z : ZX) {Y : YX} {post : Option Value → Mem → Prop} {N : Nat} {σ : Mem} {Good : Int32 → Prop} (hR : ∀ (v : Int32), Good v → post (some (.int v)) σ) : ∀ (k : Nat) (x2 : Int32) (res : Int32), L_Mo_hasOpenSum_l2 N σ k x2 = some res → Good res → V (mkB Z) Y m_Mo_hasOpenSum 0 (QP (mkB Z) Y nC 0 0 post) 0 0 nC σ 2 [(0, rf Z 65), (2, .int x2)] [] := by
  intro k
  induction k with
  | zero => intro x2 res h; cases h
  | succ k ih =>
    intro x2 res h hg
    replace h : B_Mo_hasOpenSum_l2 N σ (L_Mo_hasOpenSum_l2 N σ k) x2 = some res := h
    unfold B_Mo_hasOpenSum_l2 at h
    refine V.iload_n d_Mo_hasOpenSum_2 rfl 1 rfl ?_
    refine V.aload_n d_Mo_hasOpenSum_3 rfl 0 rfl ?_
    refine V.getI ok_Mo fl_Mo_242 (by decide) (by decide) ly_65 rfl d_Mo_hasOpenSum_4 ?_
    refine V.icmp_ge (tgt := 32) d_Mo_hasOpenSum_7 (by decide) (fun hc7 => ?_) (fun hc7 => ?_)
    · replace h := ite_t hc7 h
      refine V.iconst (v := 0) d_Mo_hasOpenSum_32 (by decide) ?_
      cases h
      exact V.zret rfl rfl d_Mo_hasOpenSum_33 (hR _ hg)
    · replace h := ite_f hc7 h
      refine V.aload_n d_Mo_hasOpenSum_10 rfl 0 rfl ?_
      refine V.getR (r := 74) ok_Mo fl_Mo_35 (by decide) (by decide) ly_65 rfl d_Mo_hasOpenSum_11 ?_
      refine V.iload_n d_Mo_hasOpenSum_14 rfl 1 rfl ?_
      obtain ⟨gq, h⟩ := grd_e h
      refine V.ra (by decide) ly_74 (inb_e gq) rfl d_Mo_hasOpenSum_15 ?_
      refine V.ldc (v := 1048576) kc_Mo_238 d_Mo_hasOpenSum_16 ?_
      refine V.idiv d_Mo_hasOpenSum_18 (by decide) ?_
      refine V.bipush (v := 14) d_Mo_hasOpenSum_19 (by decide) ?_
      refine V.icmp_ne (tgt := 26) d_Mo_hasOpenSum_21 (by decide) (fun hc21 => ?_) (fun hc21 => ?_)
      · replace h := ite_f hc21 h
        obtain ⟨v26, e_v26, h⟩ := letv_e h
        refine V.iinc (v := v26) (lv' := [(2, .int v26), (0, rf Z 65)]) d_Mo_hasOpenSum_26 1 rfl (by rw [e_v26]; rfl) (by decide) rfl ?_
        refine V.goto (tgt := 2) d_Mo_hasOpenSum_29 (by decide) ?_
        exact V.pick [1, 0] rfl (ih _ _ h hg)
      · replace h := ite_t hc21 h
        refine V.iconst (v := 1) d_Mo_hasOpenSum_24 (by decide) ?_
        cases h
        exact V.zret rfl rfl d_Mo_hasOpenSum_25 (hR _ hg)
def f_Mo_hasOpenSum (N : Nat) (σ : Mem) (a1 : Int32) : Option (Int32) :=
  L_Mo_hasOpenSum_l2 N σ N a1
set_option maxHeartbeats 4000000 in
set_option maxRecDepth 20000 in
theorem c_Mo_hasOpenSum (Z : ZX) {N : Nat} {σ : Mem} {a1 : Int32} {r : Int32} (h : f_Mo_hasOpenSum N σ a1 = some r) : CI Z 0 m_Mo_hasOpenSum [rf Z 65, .int a1] σ r σ := by
  refine Ct.of (by decide +kernel) (Nat.le_of_ble_eq_true rfl) (fun Y => ?_)
  show V (mkB Z) Y m_Mo_hasOpenSum 0 (QP (mkB Z) Y nC 0 0 (fun v t => v = some (.int r) ∧ t = σ)) 0 0 nC σ 0 [(0, rf Z 65), (1, .int a1)] []
  unfold f_Mo_hasOpenSum at h
  refine V.iload_n d_Mo_hasOpenSum_0 rfl 1 rfl ?_
  refine V.istore_n (lv' := [(2, .int a1), (0, rf Z 65), (1, .int a1)]) d_Mo_hasOpenSum_1 rfl (by decide) rfl ?_
  refine V.pick [1, 0] rfl (cL_Mo_hasOpenSum_l2 Z (Good := fun z => z = _) (fun r2v he => ?_) N _ _ h rfl)
  · cases he
    exact ⟨rfl, rfl⟩
abbrev m_Mo_waitTop : MI := (⟨"ShadeTownModel", "waitTop", "()I"⟩, prog_13_method_32_code, 1, (Option.some Jvm.ClassFile.FieldType.int))
theorem d_Mo_waitTop_0 : decode prog_13_method_32_code 0 = .ok (.aload_n 0, 1) := by decide +kernel
theorem d_Mo_waitTop_1 : decode prog_13_method_32_code 1 = .ok (.getfield 242, 3) := by decide +kernel
theorem d_Mo_waitTop_11 : decode prog_13_method_32_code 11 = .ok (.aload_n 0, 1) := by decide +kernel
theorem d_Mo_waitTop_12 : decode prog_13_method_32_code 12 = .ok (.getfield 35, 3) := by decide +kernel
theorem d_Mo_waitTop_15 : decode prog_13_method_32_code 15 = .ok (.aload_n 0, 1) := by decide +kernel
theorem d_Mo_waitTop_16 : decode prog_13_method_32_code 16 = .ok (.getfield 242, 3) := by decide +kernel
theorem d_Mo_waitTop_19 : decode prog_13_method_32_code 19 = .ok (.iconst 1, 1) := by decide +kernel
theorem d_Mo_waitTop_20 : decode prog_13_method_32_code 20 = .ok (.isub, 1) := by decide +kernel
theorem d_Mo_waitTop_21 : decode prog_13_method_32_code 21 = .ok (.iaload, 1) := by decide +kernel
theorem d_Mo_waitTop_22 : decode prog_13_method_32_code 22 = .ok (.ldc 238, 2) := by decide +kernel
theorem d_Mo_waitTop_24 : decode prog_13_method_32_code 24 = .ok (.idiv, 1) := by decide +kernel
theorem d_Mo_waitTop_25 : decode prog_13_method_32_code 25 = .ok (.ireturn, 1) := by decide +kernel
theorem d_Mo_waitTop_7 : decode prog_13_method_32_code 7 = .ok (.iconst (-1), 1) := by decide +kernel
theorem d_Mo_waitTop_8 : decode prog_13_method_32_code 8 = .ok (.goto 17, 3) := by decide +kernel
theorem d_Mo_waitTop_4 : decode prog_13_method_32_code 4 = .ok (.ifCond .ne 7, 3) := by decide +kernel
def f_Mo_waitTop (σ : Mem) : Option (Int32) :=
  if (mI σ 65 17) = 0 then
    (some (-1))
  else
    (grd (inb ((mI σ 65 17) - 1) 260) <|
    some ((mI σ 74 (((mI σ 65 17) - 1).toNatClampNeg)) / 1048576))
set_option maxHeartbeats 4000000 in
set_option maxRecDepth 20000 in
theorem c_Mo_waitTop (Z : ZX) {σ : Mem} {r : Int32} (h : f_Mo_waitTop σ = some r) : CI Z 0 m_Mo_waitTop [rf Z 65] σ r σ := by
  refine Ct.of (by decide +kernel) (Nat.le_of_ble_eq_true rfl) (fun Y => ?_)
  show V (mkB Z) Y m_Mo_waitTop 0 (QP (mkB Z) Y nC 0 0 (fun v t => v = some (.int r) ∧ t = σ)) 0 0 nC σ 0 [(0, rf Z 65)] []
  unfold f_Mo_waitTop at h
  refine V.aload_n d_Mo_waitTop_0 rfl 0 rfl ?_
  refine V.getI ok_Mo fl_Mo_242 (by decide) (by decide) ly_65 rfl d_Mo_waitTop_1 ?_
  refine V.if_ne (tgt := 11) d_Mo_waitTop_4 (by decide) (fun hc4 => ?_) (fun hc4 => ?_)
  · replace h := ite_f hc4 h
    refine V.aload_n d_Mo_waitTop_11 rfl 0 rfl ?_
    refine V.getR (r := 74) ok_Mo fl_Mo_35 (by decide) (by decide) ly_65 rfl d_Mo_waitTop_12 ?_
    refine V.aload_n d_Mo_waitTop_15 rfl 0 rfl ?_
    refine V.getI ok_Mo fl_Mo_242 (by decide) (by decide) ly_65 rfl d_Mo_waitTop_16 ?_
    refine V.iconst (v := 1) d_Mo_waitTop_19 (by decide) ?_
    refine V.isub d_Mo_waitTop_20 ?_
    obtain ⟨gq, h⟩ := grd_e h
    refine V.ra (by decide) ly_74 (inb_e gq) rfl d_Mo_waitTop_21 ?_
    refine V.ldc (v := 1048576) kc_Mo_238 d_Mo_waitTop_22 ?_
    refine V.idiv d_Mo_waitTop_24 (by decide) ?_
    cases h
    exact V.iret rfl d_Mo_waitTop_25 ⟨rfl, rfl⟩
  · replace h := ite_t hc4 h
    refine V.iconst (v := (-1)) d_Mo_waitTop_7 (by decide) ?_
    refine V.goto (tgt := 25) d_Mo_waitTop_8 (by decide) ?_
    cases h
    exact V.iret rfl d_Mo_waitTop_25 ⟨rfl, rfl⟩
abbrev m_Mo_closesSums : MI := (⟨"ShadeTownModel", "closesSums", "(Z)V"⟩, prog_13_method_35_code, 2, (Option.none : Option Jvm.ClassFile.FieldType))
theorem d_Mo_closesSums_0 : decode prog_13_method_35_code 0 = .ok (.aload_n 0, 1) := by decide +kernel
theorem d_Mo_closesSums_1 : decode prog_13_method_35_code 1 = .ok (.invokevirtual 245, 3) := by decide +kernel
theorem k_Mo_waitTop : MOk m_Mo_waitTop 0 ∧ IOk m_Mo_waitTop := ⟨⟨atG 1688 (by decide +kernel) rfl, atG 122 (by decide +kernel) rfl, ⟨by decide, by decide⟩, by decide +kernel, by decide⟩, atG 1687 (by decide +kernel) rfl, atG 58 (by decide +kernel) rfl⟩
theorem lk_Mo_245 : Cond.methodLink "ShadeTownModel" 245 ⟨"ShadeTownModel", "waitTop", "()I"⟩ ∈ tblG := atG 1685 (by decide +kernel) rfl
theorem d_Mo_closesSums_4 : decode prog_13_method_35_code 4 = .ok (.iconst 4, 1) := by decide +kernel
theorem d_Mo_closesSums_8 : decode prog_13_method_35_code 8 = .ok (.aload_n 0, 1) := by decide +kernel
theorem d_Mo_closesSums_9 : decode prog_13_method_35_code 9 = .ok (.invokevirtual 245, 3) := by decide +kernel
theorem d_Mo_closesSums_12 : decode prog_13_method_35_code 12 = .ok (.bipush 6, 2) := by decide +kernel
theorem d_Mo_closesSums_14 : decode prog_13_method_35_code 14 = .ok (.if_icmp .le 23, 3) := by decide +kernel
theorem d_Mo_closesSums_5 : decode prog_13_method_35_code 5 = .ok (.if_icmp .lt 12, 3) := by decide +kernel
theorem d_Mo_closesSums_17 : decode prog_13_method_35_code 17 = .ok (.iload_n 1, 1) := by decide +kernel
theorem d_Mo_closesSums_21 : decode prog_13_method_35_code 21 = .ok (.aload_n 0, 1) := by decide +kernel
theorem d_Mo_closesSums_22 : decode prog_13_method_35_code 22 = .ok (.invokevirtual 245, 3) := by decide +kernel
theorem d_Mo_closesSums_25 : decode prog_13_method_35_code 25 = .ok (.iconst 2, 1) := by decide +kernel
theorem d_Mo_closesSums_29 : decode prog_13_method_35_code 29 = .ok (.aload_n 0, 1) := by decide +kernel
theorem d_Mo_closesSums_30 : decode prog_13_method_35_code 30 = .ok (.invokevirtual 245, 3) := by decide +kernel
theorem d_Mo_closesSums_33 : decode prog_13_method_35_code 33 = .ok (.iconst 3, 1) := by decide +kernel
theorem d_Mo_closesSums_34 : decode prog_13_method_35_code 34 = .ok (.if_icmp .ne 25, 3) := by decide +kernel
theorem d_Mo_closesSums_26 : decode prog_13_method_35_code 26 = .ok (.if_icmp .eq 11, 3) := by decide +kernel
theorem d_Mo_closesSums_18 : decode prog_13_method_35_code 18 = .ok (.ifCond .eq 41, 3) := by decide +kernel
theorem d_Mo_closesSums_37 : decode prog_13_method_35_code 37 = .ok (.aload_n 0, 1) := by decide +kernel
theorem d_Mo_closesSums_38 : decode prog_13_method_35_code 38 = .ok (.aload_n 0, 1) := by decide +kernel
theorem d_Mo_closesSums_39 : decode prog_13_method_35_code 39 = .ok (.invokevirtual 245, 3) := by decide +kernel
theorem d_Mo_closesSums_42 : decode prog_13_method_35_code 42 = .ok (.iconst 0, 1) := by decide +kernel
theorem d_Mo_closesSums_43 : decode prog_13_method_35_code 43 = .ok (.invokevirtual 248, 3) := by decide +kernel
theorem d_Mo_closesSums_46 : decode prog_13_method_35_code 46 = .ok (.aload_n 0, 1) := by decide +kernel
theorem d_Mo_closesSums_47 : decode prog_13_method_35_code 47 = .ok (.aload_n 0, 1) := by decide +kernel
theorem d_Mo_closesSums_48 : decode prog_13_method_35_code 48 = .ok (.getfield 242, 3) := by decide +kernel
theorem d_Mo_closesSums_51 : decode prog_13_method_35_code 51 = .ok (.iconst 1, 1) := by decide +kernel
theorem d_Mo_closesSums_52 : decode prog_13_method_35_code 52 = .ok (.isub, 1) := by decide +kernel
theorem d_Mo_closesSums_53 : decode prog_13_method_35_code 53 = .ok (.putfield 242, 3) := by decide +kernel
theorem d_Mo_closesSums_56 : decode prog_13_method_35_code 56 = .ok (.goto (-56), 3) := by decide +kernel
theorem d_Mo_closesSums_59 : decode prog_13_method_35_code 59 = .ok (.return_, 1) := by decide +kernel
def B_Mo_closesSums_l0 (N : Nat) (a1 : Int32) (rec : Mem → Option (Mem)) (σ : Mem) : Option (Mem) :=
  bnd1 (f_Mo_waitTop σ) fun r1 =>
  bnd1 ((
    if r1 < 4 then
      (some 0)
    else
      (bnd1 (f_Mo_waitTop σ) fun r9 =>
      if r9 ≤ 6 then
        (some 1)
      else
        (some 0))) : Option (Nat)) fun t5b =>
  if t5b = 0 then
    (bnd1 ((
      if a1 = 0 then
        (some 0)
      else
        (bnd1 (f_Mo_waitTop σ) fun r22 =>
        if r22 = 2 then
          (some 1)
        else
          (bnd1 (f_Mo_waitTop σ) fun r30 =>
          if r30 = 3 then
            (some 1)
          else
            (some 0)))) : Option (Nat)) fun t18b =>
    if t18b = 0 then
      (some σ)
    else
    (bnd1 (f_Mo_waitTop σ) fun r39 =>
    bnd1 (f_Mo_notes σ r39 0) fun σ43 =>
    letv (sI σ43 65 17 ((mI σ43 65 17) - 1)) fun σ53 =>
    rec σ53))
  else
  (bnd1 (f_Mo_waitTop σ) fun r39 =>
  bnd1 (f_Mo_notes σ r39 0) fun σ43 =>
  letv (sI σ43 65 17 ((mI σ43 65 17) - 1)) fun σ53 =>
  rec σ53)
def L_Mo_closesSums_l0 (N : Nat) (a1 : Int32) : Nat → Mem → Option (Mem)
  | 0, _ => none
  | k + 1, σ => B_Mo_closesSums_l0 N a1 (L_Mo_closesSums_l0 N a1 k) σ
set_option maxHeartbeats 4000000 in
set_option maxRecDepth 20000 in
theorem cL_Mo_closesSums_l0 (Z : ZX) {Y : YX} {Q : State → Prop} {N : Nat} {a1 : Int32} {Good : Mem → Prop} (hE : ∀ (σe : Mem), Good σe → V (mkB Z) Y m_Mo_closesSums 1 Q 0 0 nC σe 59 [] []) : ∀ (k : Nat) (σ : Mem) (res : Mem), L_Mo_closesSums_l0 N a1 k σ = some res → Good res → V (mkB Z) Y m_Mo_closesSums 1 Q 0 0 nC σ 0 [(0, rf Z 65), (1, .int a1)] [] := by
  intro k
  induction k with
  | zero => intro σ res h; cases h
  | succ k ih =>
    intro σ res h hg
    replace h : B_Mo_closesSums_l0 N a1 (L_Mo_closesSums_l0 N a1 k) σ = some res := h
    unfold B_Mo_closesSums_l0 at h
    refine V.aload_n d_Mo_closesSums_0 rfl 0 rfl ?_
    obtain ⟨r1, h1, h⟩ := bnd1_e h
    refine V.vI (as := []) (st := []) (c_Mo_waitTop Z h1) k_Mo_waitTop lk_Mo_245 (by decide) rfl (by decide) ly_65 ok_Mo.1 rfl (Nat.le_of_ble_eq_true rfl) d_Mo_closesSums_1 ?_
    refine V.iconst (v := 4) d_Mo_closesSums_4 (by decide) ?_
    obtain ⟨s5b, h1, h⟩ := bnd1_e h
    have J5b_17 : s5b = 0 → V (mkB Z) Y m_Mo_closesSums 1 Q 0 0 nC σ 17 [(0, rf Z 65), (1, .int a1)] [] := by
      intro he
      rw [he] at h
      replace h := ite_t rfl h
      refine V.iload_n d_Mo_closesSums_17 rfl 1 rfl ?_
      obtain ⟨s18b, h1, h⟩ := bnd1_e h
      have J18b_59 : s18b = 0 → V (mkB Z) Y m_Mo_closesSums 1 Q 0 0 nC σ 59 [] [] := by
        intro he
        rw [he] at h
        replace h := ite_t rfl h
        cases h
        exact V.pick [] rfl (hE _ hg)
      have J18b_37 : s18b = 1 → V (mkB Z) Y m_Mo_closesSums 1 Q 0 0 nC σ 37 [(0, rf Z 65), (1, .int a1)] [] := by
        intro he
        rw [he] at h
        replace h := ite_f (by decide) h
        refine V.aload_n d_Mo_closesSums_37 rfl 0 rfl ?_
        refine V.aload_n d_Mo_closesSums_38 rfl 0 rfl ?_
        obtain ⟨r39, h1, h⟩ := bnd1_e h
        refine V.vI (as := []) (st := [rf Z 65]) (c_Mo_waitTop Z h1) k_Mo_waitTop lk_Mo_245 (by decide) rfl (by decide) ly_65 ok_Mo.1 rfl (Nat.le_of_ble_eq_true rfl) d_Mo_closesSums_39 ?_
        refine V.iconst (v := 0) d_Mo_closesSums_42 (by decide) ?_
        obtain ⟨σ43, h1, h⟩ := bnd1_e h
        refine V.vN (as := [.int r39, .int 0]) (st := []) (c_Mo_notes Z h1) k_Mo_notes lk_Mo_248 (by decide) rfl (by decide) ly_65 ok_Mo.1 rfl (Nat.le_of_ble_eq_true rfl) d_Mo_closesSums_43 ?_
        refine V.aload_n d_Mo_closesSums_46 rfl 0 rfl ?_
        refine V.aload_n d_Mo_closesSums_47 rfl 0 rfl ?_
        refine V.getI ok_Mo fl_Mo_242 (by decide) (by decide) ly_65 rfl d_Mo_closesSums_48 ?_
        refine V.iconst (v := 1) d_Mo_closesSums_51 (by decide) ?_
        refine V.isub d_Mo_closesSums_52 ?_
        obtain ⟨σ53, e_σ53, h⟩ := letv_e h
        refine V.putI ok_Mo fl_Mo_242 (by decide) (by decide) ly_65 rfl rfl rfl rfl d_Mo_closesSums_53 (V.mem e_σ53 ?_)
        refine V.goto (tgt := 0) d_Mo_closesSums_56 (by decide) ?_
        exact V.pick [0, 1] rfl (ih _ _ h hg)
      replace h := h1
      refine V.if_eq (tgt := 59) d_Mo_closesSums_18 (by decide) (fun hc18 => ?_) (fun hc18 => ?_)
      · replace h := ite_t hc18 h
        exact V.pick [] rfl (J18b_59 (Option.some.inj h).symm)
      · replace h := ite_f hc18 h
        refine V.aload_n d_Mo_closesSums_21 rfl 0 rfl ?_
        obtain ⟨r22, h1, h⟩ := bnd1_e h
        refine V.vI (as := []) (st := []) (c_Mo_waitTop Z h1) k_Mo_waitTop lk_Mo_245 (by decide) rfl (by decide) ly_65 ok_Mo.1 rfl (Nat.le_of_ble_eq_true rfl) d_Mo_closesSums_22 ?_
        refine V.iconst (v := 2) d_Mo_closesSums_25 (by decide) ?_
        refine V.icmp_eq (tgt := 37) d_Mo_closesSums_26 (by decide) (fun hc26 => ?_) (fun hc26 => ?_)
        · replace h := ite_t hc26 h
          exact V.pick [0, 1] rfl (J18b_37 (Option.some.inj h).symm)
        · replace h := ite_f hc26 h
          refine V.aload_n d_Mo_closesSums_29 rfl 0 rfl ?_
          obtain ⟨r30, h1, h⟩ := bnd1_e h
          refine V.vI (as := []) (st := []) (c_Mo_waitTop Z h1) k_Mo_waitTop lk_Mo_245 (by decide) rfl (by decide) ly_65 ok_Mo.1 rfl (Nat.le_of_ble_eq_true rfl) d_Mo_closesSums_30 ?_
          refine V.iconst (v := 3) d_Mo_closesSums_33 (by decide) ?_
          refine V.icmp_ne (tgt := 59) d_Mo_closesSums_34 (by decide) (fun hc34 => ?_) (fun hc34 => ?_)
          · replace h := ite_f hc34 h
            exact V.pick [] rfl (J18b_59 (Option.some.inj h).symm)
          · replace h := ite_t hc34 h
            exact V.pick [0, 1] rfl (J18b_37 (Option.some.inj h).symm)
    have J5b_37 : s5b = 1 → V (mkB Z) Y m_Mo_closesSums 1 Q 0 0 nC σ 37 [(0, rf Z 65), (1, .int a1)] [] := by
      intro he
      rw [he] at h
      replace h := ite_f (by decide) h
      refine V.aload_n d_Mo_closesSums_37 rfl 0 rfl ?_
      refine V.aload_n d_Mo_closesSums_38 rfl 0 rfl ?_
      obtain ⟨r39, h1, h⟩ := bnd1_e h
      refine V.vI (as := []) (st := [rf Z 65]) (c_Mo_waitTop Z h1) k_Mo_waitTop lk_Mo_245 (by decide) rfl (by decide) ly_65 ok_Mo.1 rfl (Nat.le_of_ble_eq_true rfl) d_Mo_closesSums_39 ?_
      refine V.iconst (v := 0) d_Mo_closesSums_42 (by decide) ?_
      obtain ⟨σ43, h1, h⟩ := bnd1_e h
      refine V.vN (as := [.int r39, .int 0]) (st := []) (c_Mo_notes Z h1) k_Mo_notes lk_Mo_248 (by decide) rfl (by decide) ly_65 ok_Mo.1 rfl (Nat.le_of_ble_eq_true rfl) d_Mo_closesSums_43 ?_
      refine V.aload_n d_Mo_closesSums_46 rfl 0 rfl ?_
      refine V.aload_n d_Mo_closesSums_47 rfl 0 rfl ?_
      refine V.getI ok_Mo fl_Mo_242 (by decide) (by decide) ly_65 rfl d_Mo_closesSums_48 ?_
      refine V.iconst (v := 1) d_Mo_closesSums_51 (by decide) ?_
      refine V.isub d_Mo_closesSums_52 ?_
      obtain ⟨σ53, e_σ53, h⟩ := letv_e h
      refine V.putI ok_Mo fl_Mo_242 (by decide) (by decide) ly_65 rfl rfl rfl rfl d_Mo_closesSums_53 (V.mem e_σ53 ?_)
      refine V.goto (tgt := 0) d_Mo_closesSums_56 (by decide) ?_
      exact V.pick [0, 1] rfl (ih _ _ h hg)
    replace h := h1
    refine V.icmp_lt (tgt := 17) d_Mo_closesSums_5 (by decide) (fun hc5 => ?_) (fun hc5 => ?_)
    · replace h := ite_t hc5 h
      exact V.pick [0, 1] rfl (J5b_17 (Option.some.inj h).symm)
    · replace h := ite_f hc5 h
      refine V.aload_n d_Mo_closesSums_8 rfl 0 rfl ?_
      obtain ⟨r9, h1, h⟩ := bnd1_e h
      refine V.vI (as := []) (st := []) (c_Mo_waitTop Z h1) k_Mo_waitTop lk_Mo_245 (by decide) rfl (by decide) ly_65 ok_Mo.1 rfl (Nat.le_of_ble_eq_true rfl) d_Mo_closesSums_9 ?_
      refine V.bipush (v := 6) d_Mo_closesSums_12 (by decide) ?_
      refine V.icmp_le (tgt := 37) d_Mo_closesSums_14 (by decide) (fun hc14 => ?_) (fun hc14 => ?_)
      · replace h := ite_t hc14 h
        exact V.pick [0, 1] rfl (J5b_37 (Option.some.inj h).symm)
      · replace h := ite_f hc14 h
        exact V.pick [0, 1] rfl (J5b_17 (Option.some.inj h).symm)
def f_Mo_closesSums (N : Nat) (σ : Mem) (a1 : Int32) : Option (Mem) :=
  bnd1 (L_Mo_closesSums_l0 N a1 N σ) fun σ0_ =>
  some σ0_
set_option maxHeartbeats 4000000 in
set_option maxRecDepth 20000 in
theorem c_Mo_closesSums (Z : ZX) {N : Nat} {σ : Mem} {a1 : Int32} {σ' : Mem} (h : f_Mo_closesSums N σ a1 = some σ') : CN Z 1 m_Mo_closesSums [rf Z 65, .int a1] σ σ' := by
  refine Ct.of (by decide +kernel) (Nat.le_of_ble_eq_true rfl) (fun Y => ?_)
  show V (mkB Z) Y m_Mo_closesSums 1 (QP (mkB Z) Y nC 0 0 (fun v t => v = none ∧ t = σ')) 0 0 nC σ 0 [(0, rf Z 65), (1, .int a1)] []
  unfold f_Mo_closesSums at h
  obtain ⟨x0_, h1, h⟩ := bnd1_e h
  refine V.pick [0, 1] rfl (cL_Mo_closesSums_l0 Z (Good := fun z => x0_ = z) (fun σ0_ he => ?_) N  _ _ h1 rfl)
  · rw [he] at h
    cases h
    exact V.vret rfl d_Mo_closesSums_59 ⟨rfl, rfl⟩
abbrev m_Mo_readsSum : MI := (⟨"ShadeTownModel", "readsSum", "()Z"⟩, prog_13_method_38_code, 3, (Option.some Jvm.ClassFile.FieldType.boolean))
theorem d_Mo_readsSum_0 : decode prog_13_method_38_code 0 = .ok (.aload_n 0, 1) := by decide +kernel
theorem d_Mo_readsSum_1 : decode prog_13_method_38_code 1 = .ok (.getfield 242, 3) := by decide +kernel
theorem d_Mo_readsSum_4 : decode prog_13_method_38_code 4 = .ok (.istore_n 1, 1) := by decide +kernel
theorem d_Mo_readsSum_5 : decode prog_13_method_38_code 5 = .ok (.aload_n 0, 1) := by decide +kernel
theorem d_Mo_readsSum_6 : decode prog_13_method_38_code 6 = .ok (.invokevirtual 261, 3) := by decide +kernel
theorem k_Mo_readsFactor : MOk m_Mo_readsFactor 0 ∧ IOk m_Mo_readsFactor := ⟨⟨atG 1657 (by decide +kernel) rfl, atG 122 (by decide +kernel) rfl, ⟨by decide, by decide⟩, by decide +kernel, by decide⟩, atG 1656 (by decide +kernel) rfl, atG 52 (by decide +kernel) rfl⟩
theorem lk_Mo_261 : Cond.methodLink "ShadeTownModel" 261 ⟨"ShadeTownModel", "readsFactor", "()Z"⟩ ∈ tblG := atG 1654 (by decide +kernel) rfl
theorem d_Mo_readsSum_14 : decode prog_13_method_38_code 14 = .ok (.aload_n 0, 1) := by decide +kernel
theorem d_Mo_readsSum_15 : decode prog_13_method_38_code 15 = .ok (.invokevirtual 218, 3) := by decide +kernel
theorem d_Mo_readsSum_18 : decode prog_13_method_38_code 18 = .ok (.invokestatic 264, 3) := by decide +kernel
theorem k_Mo_sumSign : MOk m_Mo_sumSign 1 ∧ Cond.static m_Mo_sumSign.1 ∈ tblG := ⟨⟨atG 1680 (by decide +kernel) rfl, atG 122 (by decide +kernel) rfl, ⟨by decide, by decide⟩, by decide +kernel, by decide⟩, atG 1679 (by decide +kernel) rfl⟩
theorem lk_Mo_264 : Cond.methodLink "ShadeTownModel" 264 ⟨"ShadeTownModel", "sumSign", "(I)I"⟩ ∈ tblG := atG 1678 (by decide +kernel) rfl
theorem d_Mo_readsSum_21 : decode prog_13_method_38_code 21 = .ok (.istore_n 2, 1) := by decide +kernel
theorem d_Mo_readsSum_22 : decode prog_13_method_38_code 22 = .ok (.iload_n 2, 1) := by decide +kernel
theorem d_Mo_readsSum_23 : decode prog_13_method_38_code 23 = .ok (.iconst (-1), 1) := by decide +kernel
theorem d_Mo_readsSum_83 : decode prog_13_method_38_code 83 = .ok (.aload_n 0, 1) := by decide +kernel
theorem d_Mo_readsSum_84 : decode prog_13_method_38_code 84 = .ok (.invokevirtual 218, 3) := by decide +kernel
theorem d_Mo_readsSum_87 : decode prog_13_method_38_code 87 = .ok (.bipush 93, 2) := by decide +kernel
theorem d_Mo_readsSum_92 : decode prog_13_method_38_code 92 = .ok (.aload_n 0, 1) := by decide +kernel
theorem d_Mo_readsSum_93 : decode prog_13_method_38_code 93 = .ok (.iload_n 1, 1) := by decide +kernel
theorem d_Mo_readsSum_94 : decode prog_13_method_38_code 94 = .ok (.invokevirtual 271, 3) := by decide +kernel
theorem k_Mo_hasOpenSum : MOk m_Mo_hasOpenSum 1 ∧ IOk m_Mo_hasOpenSum := ⟨⟨atG 1692 (by decide +kernel) rfl, atG 122 (by decide +kernel) rfl, ⟨by decide, by decide⟩, by decide +kernel, by decide⟩, atG 1691 (by decide +kernel) rfl, atG 59 (by decide +kernel) rfl⟩
theorem lk_Mo_271 : Cond.methodLink "ShadeTownModel" 271 ⟨"ShadeTownModel", "hasOpenSum", "(I)Z"⟩ ∈ tblG := atG 1689 (by decide +kernel) rfl
theorem d_Mo_readsSum_100 : decode prog_13_method_38_code 100 = .ok (.aload_n 0, 1) := by decide +kernel
theorem d_Mo_readsSum_101 : decode prog_13_method_38_code 101 = .ok (.iconst 1, 1) := by decide +kernel
theorem d_Mo_readsSum_102 : decode prog_13_method_38_code 102 = .ok (.invokevirtual 267, 3) := by decide +kernel
theorem k_Mo_closesSums : MOk m_Mo_closesSums 1 ∧ IOk m_Mo_closesSums := ⟨⟨atG 1684 (by decide +kernel) rfl, atG 122 (by decide +kernel) rfl, ⟨by decide, by decide⟩, by decide +kernel, by decide⟩, atG 1683 (by decide +kernel) rfl, atG 57 (by decide +kernel) rfl⟩
theorem lk_Mo_267 : Cond.methodLink "ShadeTownModel" 267 ⟨"ShadeTownModel", "closesSums", "(Z)V"⟩ ∈ tblG := atG 1681 (by decide +kernel) rfl
theorem d_Mo_readsSum_105 : decode prog_13_method_38_code 105 = .ok (.aload_n 0, 1) := by decide +kernel
theorem d_Mo_readsSum_106 : decode prog_13_method_38_code 106 = .ok (.aload_n 0, 1) := by decide +kernel
theorem d_Mo_readsSum_107 : decode prog_13_method_38_code 107 = .ok (.getfield 242, 3) := by decide +kernel
theorem d_Mo_readsSum_110 : decode prog_13_method_38_code 110 = .ok (.iconst 1, 1) := by decide +kernel
theorem d_Mo_readsSum_111 : decode prog_13_method_38_code 111 = .ok (.isub, 1) := by decide +kernel
theorem d_Mo_readsSum_112 : decode prog_13_method_38_code 112 = .ok (.putfield 242, 3) := by decide +kernel
theorem d_Mo_readsSum_115 : decode prog_13_method_38_code 115 = .ok (.aload_n 0, 1) := by decide +kernel
theorem d_Mo_readsSum_116 : decode prog_13_method_38_code 116 = .ok (.aload_n 0, 1) := by decide +kernel
theorem d_Mo_readsSum_117 : decode prog_13_method_38_code 117 = .ok (.getfield 239, 3) := by decide +kernel
theorem d_Mo_readsSum_120 : decode prog_13_method_38_code 120 = .ok (.iconst 1, 1) := by decide +kernel
theorem d_Mo_readsSum_121 : decode prog_13_method_38_code 121 = .ok (.isub, 1) := by decide +kernel
theorem d_Mo_readsSum_122 : decode prog_13_method_38_code 122 = .ok (.putfield 239, 3) := by decide +kernel
theorem d_Mo_readsSum_125 : decode prog_13_method_38_code 125 = .ok (.aload_n 0, 1) := by decide +kernel
theorem d_Mo_readsSum_126 : decode prog_13_method_38_code 126 = .ok (.aload_n 0, 1) := by decide +kernel
theorem d_Mo_readsSum_127 : decode prog_13_method_38_code 127 = .ok (.getfield 212, 3) := by decide +kernel
theorem d_Mo_readsSum_130 : decode prog_13_method_38_code 130 = .ok (.iconst 1, 1) := by decide +kernel
theorem d_Mo_readsSum_131 : decode prog_13_method_38_code 131 = .ok (.iadd, 1) := by decide +kernel
theorem d_Mo_readsSum_132 : decode prog_13_method_38_code 132 = .ok (.putfield 212, 3) := by decide +kernel
theorem d_Mo_readsSum_135 : decode prog_13_method_38_code 135 = .ok (.goto 28, 3) := by decide +kernel
theorem d_Mo_readsSum_163 : decode prog_13_method_38_code 163 = .ok (.goto (-149), 3) := by decide +kernel
theorem d_Mo_readsSum_97 : decode prog_13_method_38_code 97 = .ok (.ifCond .eq 41, 3) := by decide +kernel
theorem d_Mo_readsSum_89 : decode prog_13_method_38_code 89 = .ok (.if_icmp .ne 49, 3) := by decide +kernel
theorem d_Mo_readsSum_27 : decode prog_13_method_38_code 27 = .ok (.aload_n 0, 1) := by decide +kernel
theorem d_Mo_readsSum_28 : decode prog_13_method_38_code 28 = .ok (.iload_n 2, 1) := by decide +kernel
theorem d_Mo_readsSum_29 : decode prog_13_method_38_code 29 = .ok (.iconst 4, 1) := by decide +kernel
theorem d_Mo_readsSum_37 : decode prog_13_method_38_code 37 = .ok (.iconst 0, 1) := by decide +kernel
theorem d_Mo_readsSum_33 : decode prog_13_method_38_code 33 = .ok (.iconst 1, 1) := by decide +kernel
theorem d_Mo_readsSum_34 : decode prog_13_method_38_code 34 = .ok (.goto 4, 3) := by decide +kernel
theorem d_Mo_readsSum_30 : decode prog_13_method_38_code 30 = .ok (.if_icmp .ge 7, 3) := by decide +kernel
theorem d_Mo_readsSum_38 : decode prog_13_method_38_code 38 = .ok (.invokevirtual 267, 3) := by decide +kernel
theorem d_Mo_readsSum_41 : decode prog_13_method_38_code 41 = .ok (.aload_n 0, 1) := by decide +kernel
theorem d_Mo_readsSum_42 : decode prog_13_method_38_code 42 = .ok (.getfield 35, 3) := by decide +kernel
theorem d_Mo_readsSum_45 : decode prog_13_method_38_code 45 = .ok (.aload_n 0, 1) := by decide +kernel
theorem d_Mo_readsSum_46 : decode prog_13_method_38_code 46 = .ok (.getfield 242, 3) := by decide +kernel
theorem d_Mo_readsSum_49 : decode prog_13_method_38_code 49 = .ok (.ldc 238, 2) := by decide +kernel
theorem d_Mo_readsSum_51 : decode prog_13_method_38_code 51 = .ok (.iload_n 2, 1) := by decide +kernel
theorem d_Mo_readsSum_52 : decode prog_13_method_38_code 52 = .ok (.imul, 1) := by decide +kernel
theorem d_Mo_readsSum_53 : decode prog_13_method_38_code 53 = .ok (.iastore, 1) := by decide +kernel
theorem d_Mo_readsSum_54 : decode prog_13_method_38_code 54 = .ok (.aload_n 0, 1) := by decide +kernel
theorem d_Mo_readsSum_55 : decode prog_13_method_38_code 55 = .ok (.aload_n 0, 1) := by decide +kernel
theorem d_Mo_readsSum_56 : decode prog_13_method_38_code 56 = .ok (.getfield 242, 3) := by decide +kernel
theorem d_Mo_readsSum_59 : decode prog_13_method_38_code 59 = .ok (.iconst 1, 1) := by decide +kernel
theorem d_Mo_readsSum_60 : decode prog_13_method_38_code 60 = .ok (.iadd, 1) := by decide +kernel
theorem d_Mo_readsSum_61 : decode prog_13_method_38_code 61 = .ok (.putfield 242, 3) := by decide +kernel
theorem d_Mo_readsSum_64 : decode prog_13_method_38_code 64 = .ok (.aload_n 0, 1) := by decide +kernel
theorem d_Mo_readsSum_65 : decode prog_13_method_38_code 65 = .ok (.aload_n 0, 1) := by decide +kernel
theorem d_Mo_readsSum_66 : decode prog_13_method_38_code 66 = .ok (.getfield 212, 3) := by decide +kernel
theorem d_Mo_readsSum_69 : decode prog_13_method_38_code 69 = .ok (.iconst 1, 1) := by decide +kernel
theorem d_Mo_readsSum_70 : decode prog_13_method_38_code 70 = .ok (.iadd, 1) := by decide +kernel
theorem d_Mo_readsSum_71 : decode prog_13_method_38_code 71 = .ok (.putfield 212, 3) := by decide +kernel
theorem d_Mo_readsSum_74 : decode prog_13_method_38_code 74 = .ok (.aload_n 0, 1) := by decide +kernel
theorem d_Mo_readsSum_75 : decode prog_13_method_38_code 75 = .ok (.invokevirtual 261, 3) := by decide +kernel
theorem d_Mo_readsSum_81 : decode prog_13_method_38_code 81 = .ok (.iconst 0, 1) := by decide +kernel
theorem d_Mo_readsSum_82 : decode prog_13_method_38_code 82 = .ok (.ireturn, 1) := by decide +kernel
theorem d_Mo_readsSum_78 : decode prog_13_method_38_code 78 = .ok (.ifCond .ne 85, 3) := by decide +kernel
theorem d_Mo_readsSum_24 : decode prog_13_method_38_code 24 = .ok (.if_icmp .eq 59, 3) := by decide +kernel
theorem d_Mo_readsSum_138 : decode prog_13_method_38_code 138 = .ok (.aload_n 0, 1) := by decide +kernel
theorem d_Mo_readsSum_139 : decode prog_13_method_38_code 139 = .ok (.iload_n 1, 1) := by decide +kernel
theorem d_Mo_readsSum_140 : decode prog_13_method_38_code 140 = .ok (.invokevirtual 271, 3) := by decide +kernel
theorem d_Mo_readsSum_156 : decode prog_13_method_38_code 156 = .ok (.aload_n 0, 1) := by decide +kernel
theorem d_Mo_readsSum_157 : decode prog_13_method_38_code 157 = .ok (.iconst 1, 1) := by decide +kernel
theorem d_Mo_readsSum_158 : decode prog_13_method_38_code 158 = .ok (.invokevirtual 267, 3) := by decide +kernel
theorem d_Mo_readsSum_161 : decode prog_13_method_38_code 161 = .ok (.iconst 1, 1) := by decide +kernel
theorem d_Mo_readsSum_162 : decode prog_13_method_38_code 162 = .ok (.ireturn, 1) := by decide +kernel
theorem d_Mo_readsSum_146 : decode prog_13_method_38_code 146 = .ok (.aload_n 0, 1) := by decide +kernel
theorem d_Mo_readsSum_147 : decode prog_13_method_38_code 147 = .ok (.iconst 1, 1) := by decide +kernel
theorem d_Mo_readsSum_148 : decode prog_13_method_38_code 148 = .ok (.aload_n 0, 1) := by decide +kernel
theorem d_Mo_readsSum_149 : decode prog_13_method_38_code 149 = .ok (.getfield 212, 3) := by decide +kernel
theorem d_Mo_readsSum_152 : decode prog_13_method_38_code 152 = .ok (.invokevirtual 225, 3) := by decide +kernel
theorem d_Mo_readsSum_155 : decode prog_13_method_38_code 155 = .ok (.ireturn, 1) := by decide +kernel
theorem d_Mo_readsSum_143 : decode prog_13_method_38_code 143 = .ok (.ifCond .eq 13, 3) := by decide +kernel
theorem d_Mo_readsSum_12 : decode prog_13_method_38_code 12 = .ok (.iconst 0, 1) := by decide +kernel
theorem d_Mo_readsSum_13 : decode prog_13_method_38_code 13 = .ok (.ireturn, 1) := by decide +kernel
theorem d_Mo_readsSum_9 : decode prog_13_method_38_code 9 = .ok (.ifCond .ne 5, 3) := by decide +kernel
def B_Mo_readsSum_l14 (N : Nat) (a1 : Int32) (rec : Mem → Option ((Int32 × Mem) ⊕ (Mem))) (σ : Mem) : Option ((Int32 × Mem) ⊕ (Mem)) :=
  bnd1 (f_Mo_here σ) fun r15 =>
  bnd1 (f_Mo_sumSign r15) fun r18 =>
  if r18 = (-1) then
    (bnd1 (f_Mo_here σ) fun r84 =>
    if r84 = 93 then
      (bnd1 (f_Mo_hasOpenSum N σ a1) fun r94 =>
      if r94 = 0 then
        (some (.inr σ))
      else
        (bnd1 (f_Mo_closesSums N σ 1) fun σ102 =>
        letv (sI σ102 65 17 ((mI σ102 65 17) - 1)) fun σ112 =>
        letv (sI σ112 65 15 ((mI σ112 65 15) - 1)) fun σ122 =>
        letv (sI σ122 65 12 ((mI σ122 65 12) + 1)) fun σ132 =>
        rec σ132))
    else
      (some (.inr σ)))
  else
    (bnd1 ((
      if 4 ≤ r18 then
        (some 0)
      else
        (some 1)) : Option (Int32)) fun y30_s1 =>
    bnd1 (f_Mo_closesSums N σ y30_s1) fun σ38 =>
    grd (inb (mI σ38 65 17) 260) <|
    letv (sI σ38 74 ((mI σ38 65 17).toNatClampNeg) (1048576 * r18)) fun σ53 =>
    letv (sI σ53 65 17 ((mI σ53 65 17) + 1)) fun σ61 =>
    letv (sI σ61 65 12 ((mI σ61 65 12) + 1)) fun σ71 =>
    bnd2 (f_Mo_readsFactor N σ71) fun r75 σ75 =>
    if r75 = 0 then
      (some (.inl (0, σ75)))
    else
      (rec σ75))
def L_Mo_readsSum_l14 (N : Nat) (a1 : Int32) : Nat → Mem → Option ((Int32 × Mem) ⊕ (Mem))
  | 0, _ => none
  | k + 1, σ => B_Mo_readsSum_l14 N a1 (L_Mo_readsSum_l14 N a1 k) σ
set_option maxHeartbeats 4000000 in
set_option maxRecDepth 20000 in
theorem cL_Mo_readsSum_l14 (Z : ZX) {Y : YX} {post : Option Value → Mem → Prop} {N : Nat} {a1 : Int32} {Good : (Int32 × Mem) ⊕ (Mem) → Prop} (hE : ∀ (σe : Mem), Good (.inr σe) → V (mkB Z) Y m_Mo_readsSum 4 (QP (mkB Z) Y nC 0 0 post) 0 0 nC σe 138 [(0, rf Z 65), (1, .int a1)] []) (hR : ∀ (v : Int32) (σr : Mem), Good (.inl (v, σr)) → post (some (.int v)) σr) : ∀ (k : Nat) (σ : Mem) (res : (Int32 × Mem) ⊕ (Mem)), L_Mo_readsSum_l14 N a1 k σ = some res → Good res → V (mkB Z) Y m_Mo_readsSum 4 (QP (mkB Z) Y nC 0 0 post) 0 0 nC σ 14 [(0, rf Z 65), (1, .int a1)] [] := by
  intro k
  induction k with
  | zero => intro σ res h; cases h
  | succ k ih =>
    intro σ res h hg
    replace h : B_Mo_readsSum_l14 N a1 (L_Mo_readsSum_l14 N a1 k) σ = some res := h
    unfold B_Mo_readsSum_l14 at h
    refine V.aload_n d_Mo_readsSum_14 rfl 0 rfl ?_
    obtain ⟨r15, h1, h⟩ := bnd1_e h
    refine V.vI (as := []) (st := []) (c_Mo_here Z h1) k_Mo_here lk_Mo_218 (by decide) rfl (by decide) ly_65 ok_Mo.1 rfl (Nat.le_of_ble_eq_true rfl) d_Mo_readsSum_15 ?_
    obtain ⟨r18, h1, h⟩ := bnd1_e h
    refine V.sI (as := [.int r15]) (st := []) (c_Mo_sumSign Z h1) k_Mo_sumSign lk_Mo_264 (by decide) rfl rfl (Nat.le_of_ble_eq_true rfl) d_Mo_readsSum_18 ?_
    refine V.istore_n (lv' := [(2, .int r18), (0, rf Z 65), (1, .int a1)]) d_Mo_readsSum_21 rfl (by decide) rfl ?_
    refine V.iload_n d_Mo_readsSum_22 rfl 0 rfl ?_
    refine V.iconst (v := (-1)) d_Mo_readsSum_23 (by decide) ?_
    refine V.icmp_eq (tgt := 83) d_Mo_readsSum_24 (by decide) (fun hc24 => ?_) (fun hc24 => ?_)
    · replace h := ite_t hc24 h
      refine V.aload_n d_Mo_readsSum_83 rfl 1 rfl ?_
      obtain ⟨r84, h1, h⟩ := bnd1_e h
      refine V.vI (as := []) (st := []) (c_Mo_here Z h1) k_Mo_here lk_Mo_218 (by decide) rfl (by decide) ly_65 ok_Mo.1 rfl (Nat.le_of_ble_eq_true rfl) d_Mo_readsSum_84 ?_
      refine V.bipush (v := 93) d_Mo_readsSum_87 (by decide) ?_
      refine V.icmp_ne (tgt := 138) d_Mo_readsSum_89 (by decide) (fun hc89 => ?_) (fun hc89 => ?_)
      · replace h := ite_f hc89 h
        cases h
        exact V.pick [1, 2] rfl (hE _ hg)
      · replace h := ite_t hc89 h
        refine V.aload_n d_Mo_readsSum_92 rfl 1 rfl ?_
        refine V.iload_n d_Mo_readsSum_93 rfl 2 rfl ?_
        obtain ⟨r94, h1, h⟩ := bnd1_e h
        refine V.vI (as := [.int a1]) (st := []) (c_Mo_hasOpenSum Z h1) k_Mo_hasOpenSum lk_Mo_271 (by decide) rfl (by decide) ly_65 ok_Mo.1 rfl (Nat.le_of_ble_eq_true rfl) d_Mo_readsSum_94 ?_
        refine V.if_eq (tgt := 138) d_Mo_readsSum_97 (by decide) (fun hc97 => ?_) (fun hc97 => ?_)
        · replace h := ite_t hc97 h
          cases h
          exact V.pick [1, 2] rfl (hE _ hg)
        · replace h := ite_f hc97 h
          refine V.aload_n d_Mo_readsSum_100 rfl 1 rfl ?_
          refine V.iconst (v := 1) d_Mo_readsSum_101 (by decide) ?_
          obtain ⟨σ102, h1, h⟩ := bnd1_e h
          refine V.vN (as := [.int 1]) (st := []) (c_Mo_closesSums Z h1) k_Mo_closesSums lk_Mo_267 (by decide) rfl (by decide) ly_65 ok_Mo.1 rfl (Nat.le_of_ble_eq_true rfl) d_Mo_readsSum_102 ?_
          refine V.aload_n d_Mo_readsSum_105 rfl 1 rfl ?_
          refine V.aload_n d_Mo_readsSum_106 rfl 1 rfl ?_
          refine V.getI ok_Mo fl_Mo_242 (by decide) (by decide) ly_65 rfl d_Mo_readsSum_107 ?_
          refine V.iconst (v := 1) d_Mo_readsSum_110 (by decide) ?_
          refine V.isub d_Mo_readsSum_111 ?_
          obtain ⟨σ112, e_σ112, h⟩ := letv_e h
          refine V.putI ok_Mo fl_Mo_242 (by decide) (by decide) ly_65 rfl rfl rfl rfl d_Mo_readsSum_112 (V.mem e_σ112 ?_)
          refine V.aload_n d_Mo_readsSum_115 rfl 1 rfl ?_
          refine V.aload_n d_Mo_readsSum_116 rfl 1 rfl ?_
          refine V.getI ok_Mo fl_Mo_239 (by decide) (by decide) ly_65 rfl d_Mo_readsSum_117 ?_
          refine V.iconst (v := 1) d_Mo_readsSum_120 (by decide) ?_
          refine V.isub d_Mo_readsSum_121 ?_
          obtain ⟨σ122, e_σ122, h⟩ := letv_e h
          refine V.putI ok_Mo fl_Mo_239 (by decide) (by decide) ly_65 rfl rfl rfl rfl d_Mo_readsSum_122 (V.mem e_σ122 ?_)
          refine V.aload_n d_Mo_readsSum_125 rfl 1 rfl ?_
          refine V.aload_n d_Mo_readsSum_126 rfl 1 rfl ?_
          refine V.getI ok_Mo fl_Mo_212 (by decide) (by decide) ly_65 rfl d_Mo_readsSum_127 ?_
          refine V.iconst (v := 1) d_Mo_readsSum_130 (by decide) ?_
          refine V.iadd d_Mo_readsSum_131 ?_
          obtain ⟨σ132, e_σ132, h⟩ := letv_e h
          refine V.putI ok_Mo fl_Mo_212 (by decide) (by decide) ly_65 rfl rfl rfl rfl d_Mo_readsSum_132 (V.mem e_σ132 ?_)
          refine V.goto (tgt := 163) d_Mo_readsSum_135 (by decide) ?_
          refine V.goto (tgt := 14) d_Mo_readsSum_163 (by decide) ?_
          exact V.pick [1, 2] rfl (ih _ _ h hg)
    · replace h := ite_f hc24 h
      refine V.aload_n d_Mo_readsSum_27 rfl 1 rfl ?_
      refine V.iload_n d_Mo_readsSum_28 rfl 0 rfl ?_
      refine V.iconst (v := 4) d_Mo_readsSum_29 (by decide) ?_
      obtain ⟨s30, h1, h⟩ := bnd1_e h
      have J30_38 : ∀ (y30_s1 : Int32), s30 = y30_s1 → V (mkB Z) Y m_Mo_readsSum 4 (QP (mkB Z) Y nC 0 0 post) 0 0 nC σ 38 [(0, rf Z 65), (1, .int a1), (2, .int r18)] [.int y30_s1, rf Z 65] := by
        intro y30_s1 he
        rw [he] at h
        obtain ⟨σ38, h1, h⟩ := bnd1_e h
        refine V.vN (as := [.int y30_s1]) (st := []) (c_Mo_closesSums Z h1) k_Mo_closesSums lk_Mo_267 (by decide) rfl (by decide) ly_65 ok_Mo.1 rfl (Nat.le_of_ble_eq_true rfl) d_Mo_readsSum_38 ?_
        refine V.aload_n d_Mo_readsSum_41 rfl 0 rfl ?_
        refine V.getR (r := 74) ok_Mo fl_Mo_35 (by decide) (by decide) ly_65 rfl d_Mo_readsSum_42 ?_
        refine V.aload_n d_Mo_readsSum_45 rfl 0 rfl ?_
        refine V.getI ok_Mo fl_Mo_242 (by decide) (by decide) ly_65 rfl d_Mo_readsSum_46 ?_
        refine V.ldc (v := 1048576) kc_Mo_238 d_Mo_readsSum_49 ?_
        refine V.iload_n d_Mo_readsSum_51 rfl 2 rfl ?_
        refine V.imul d_Mo_readsSum_52 ?_
        obtain ⟨gq, h⟩ := grd_e h
        obtain ⟨σ53, e_σ53, h⟩ := letv_e h
        refine V.wa (by decide) ly_74 (inb_e gq) rfl d_Mo_readsSum_53 e_σ53 ?_
        refine V.aload_n d_Mo_readsSum_54 rfl 0 rfl ?_
        refine V.aload_n d_Mo_readsSum_55 rfl 0 rfl ?_
        refine V.getI ok_Mo fl_Mo_242 (by decide) (by decide) ly_65 rfl d_Mo_readsSum_56 ?_
        refine V.iconst (v := 1) d_Mo_readsSum_59 (by decide) ?_
        refine V.iadd d_Mo_readsSum_60 ?_
        obtain ⟨σ61, e_σ61, h⟩ := letv_e h
        refine V.putI ok_Mo fl_Mo_242 (by decide) (by decide) ly_65 rfl rfl rfl rfl d_Mo_readsSum_61 (V.mem e_σ61 ?_)
        refine V.aload_n d_Mo_readsSum_64 rfl 0 rfl ?_
        refine V.aload_n d_Mo_readsSum_65 rfl 0 rfl ?_
        refine V.getI ok_Mo fl_Mo_212 (by decide) (by decide) ly_65 rfl d_Mo_readsSum_66 ?_
        refine V.iconst (v := 1) d_Mo_readsSum_69 (by decide) ?_
        refine V.iadd d_Mo_readsSum_70 ?_
        obtain ⟨σ71, e_σ71, h⟩ := letv_e h
        refine V.putI ok_Mo fl_Mo_212 (by decide) (by decide) ly_65 rfl rfl rfl rfl d_Mo_readsSum_71 (V.mem e_σ71 ?_)
        refine V.aload_n d_Mo_readsSum_74 rfl 0 rfl ?_
        obtain ⟨r75, σ75, h1, h⟩ := bnd2_e h
        refine V.vI (as := []) (st := []) (c_Mo_readsFactor Z h1) k_Mo_readsFactor lk_Mo_261 (by decide) rfl (by decide) ly_65 ok_Mo.1 rfl (Nat.le_of_ble_eq_true rfl) d_Mo_readsSum_75 ?_
        refine V.if_ne (tgt := 163) d_Mo_readsSum_78 (by decide) (fun hc78 => ?_) (fun hc78 => ?_)
        · replace h := ite_f hc78 h
          refine V.goto (tgt := 14) d_Mo_readsSum_163 (by decide) ?_
          exact V.pick [0, 1] rfl (ih _ _ h hg)
        · replace h := ite_t hc78 h
          refine V.iconst (v := 0) d_Mo_readsSum_81 (by decide) ?_
          cases h
          exact V.zret rfl rfl d_Mo_readsSum_82 (hR _ _ hg)
      replace h := h1
      refine V.icmp_ge (tgt := 37) d_Mo_readsSum_30 (by decide) (fun hc30 => ?_) (fun hc30 => ?_)
      · replace h := ite_t hc30 h
        refine V.iconst (v := 0) d_Mo_readsSum_37 (by decide) ?_
        exact V.pick [1, 2, 0] rfl (J30_38 _ (Option.some.inj h).symm)
      · replace h := ite_f hc30 h
        refine V.iconst (v := 1) d_Mo_readsSum_33 (by decide) ?_
        refine V.goto (tgt := 38) d_Mo_readsSum_34 (by decide) ?_
        exact V.pick [1, 2, 0] rfl (J30_38 _ (Option.some.inj h).symm)
def f_Mo_readsSum (N : Nat) (σ : Mem) : Option (Int32 × Mem) :=
  letv (mI σ 65 17) fun v4 =>
  bnd2 (f_Mo_readsFactor N σ) fun r6 σ6 =>
  if r6 = 0 then
    (some (0, σ6))
  else
    (bnd1 (L_Mo_readsSum_l14 N v4 N σ6) fun x14_ =>
    sm x14_ (fun r14_ => some r14_) fun σ14_ =>
    bnd1 (f_Mo_hasOpenSum N σ14_ v4) fun r140 =>
    if r140 = 0 then
      (bnd1 (f_Mo_closesSums N σ14_ 1) fun σ158 =>
      some (1, σ158))
    else
      (bnd2 (f_Mo_wrongAt σ14_ 1 (mI σ14_ 65 12)) fun r152 σ152 =>
      grd (decide (r152 &&& 1 = r152)) (some (r152, σ152))))
set_option maxHeartbeats 4000000 in
set_option maxRecDepth 20000 in
theorem c_Mo_readsSum (Z : ZX) {N : Nat} {σ : Mem} {r : Int32} {σ' : Mem} (h : f_Mo_readsSum N σ = some (r, σ')) : CI Z 4 m_Mo_readsSum [rf Z 65] σ r σ' := by
  refine Ct.of (by decide +kernel) (Nat.le_of_ble_eq_true rfl) (fun Y => ?_)
  show V (mkB Z) Y m_Mo_readsSum 4 (QP (mkB Z) Y nC 0 0 (fun v t => v = some (.int r) ∧ t = σ')) 0 0 nC σ 0 [(0, rf Z 65)] []
  unfold f_Mo_readsSum at h
  refine V.aload_n d_Mo_readsSum_0 rfl 0 rfl ?_
  refine V.getI ok_Mo fl_Mo_242 (by decide) (by decide) ly_65 rfl d_Mo_readsSum_1 ?_
  obtain ⟨v4, e_v4, h⟩ := letv_e h
  refine V.topI e_v4 ?_
  refine V.istore_n (lv' := [(1, .int v4), (0, rf Z 65)]) d_Mo_readsSum_4 rfl (by decide) rfl ?_
  refine V.aload_n d_Mo_readsSum_5 rfl 1 rfl ?_
  obtain ⟨r6, σ6, h1, h⟩ := bnd2_e h
  refine V.vI (as := []) (st := []) (c_Mo_readsFactor Z h1) k_Mo_readsFactor lk_Mo_261 (by decide) rfl (by decide) ly_65 ok_Mo.1 rfl (Nat.le_of_ble_eq_true rfl) d_Mo_readsSum_6 ?_
  refine V.if_ne (tgt := 14) d_Mo_readsSum_9 (by decide) (fun hc9 => ?_) (fun hc9 => ?_)
  · replace h := ite_f hc9 h
    obtain ⟨x14_, h1, h⟩ := bnd1_e h
    refine V.pick [1, 0] rfl (cL_Mo_readsSum_l14 Z (Good := fun z => x14_ = z) (fun σ14_ he => ?_) (fun r14v r14m he => ?_) N  _ _ h1 rfl)
    · rw [he] at h
      replace h := sm_r h
      refine V.aload_n d_Mo_readsSum_138 rfl 0 rfl ?_
      refine V.iload_n d_Mo_readsSum_139 rfl 1 rfl ?_
      obtain ⟨r140, h1, h⟩ := bnd1_e h
      refine V.vI (as := [.int v4]) (st := []) (c_Mo_hasOpenSum Z h1) k_Mo_hasOpenSum lk_Mo_271 (by decide) rfl (by decide) ly_65 ok_Mo.1 rfl (Nat.le_of_ble_eq_true rfl) d_Mo_readsSum_140 ?_
      refine V.if_eq (tgt := 156) d_Mo_readsSum_143 (by decide) (fun hc143 => ?_) (fun hc143 => ?_)
      · replace h := ite_t hc143 h
        refine V.aload_n d_Mo_readsSum_156 rfl 0 rfl ?_
        refine V.iconst (v := 1) d_Mo_readsSum_157 (by decide) ?_
        obtain ⟨σ158, h1, h⟩ := bnd1_e h
        refine V.vN (as := [.int 1]) (st := []) (c_Mo_closesSums Z h1) k_Mo_closesSums lk_Mo_267 (by decide) rfl (by decide) ly_65 ok_Mo.1 rfl (Nat.le_of_ble_eq_true rfl) d_Mo_readsSum_158 ?_
        refine V.iconst (v := 1) d_Mo_readsSum_161 (by decide) ?_
        cases h
        exact V.zret rfl rfl d_Mo_readsSum_162 ⟨rfl, rfl⟩
      · replace h := ite_f hc143 h
        refine V.aload_n d_Mo_readsSum_146 rfl 0 rfl ?_
        refine V.iconst (v := 1) d_Mo_readsSum_147 (by decide) ?_
        refine V.aload_n d_Mo_readsSum_148 rfl 0 rfl ?_
        refine V.getI ok_Mo fl_Mo_212 (by decide) (by decide) ly_65 rfl d_Mo_readsSum_149 ?_
        obtain ⟨r152, σ152, h1, h⟩ := bnd2_e h
        refine V.vI (as := [.int 1, .int (mI σ14_ 65 12)]) (st := []) (c_Mo_wrongAt Z h1) k_Mo_wrongAt lk_Mo_225 (by decide) rfl (by decide) ly_65 ok_Mo.1 rfl (Nat.le_of_ble_eq_true rfl) d_Mo_readsSum_152 ?_
        obtain ⟨hz, h⟩ := grd_e h
        have hz := congrArg Value.int (of_decide_eq_true hz)
        cases h
        exact V.zret rfl hz d_Mo_readsSum_155 ⟨rfl, rfl⟩
    · rw [he] at h
      replace h := sm_l h
      cases h
      exact ⟨rfl, rfl⟩
  · replace h := ite_t hc9 h
    refine V.iconst (v := 0) d_Mo_readsSum_12 (by decide) ?_
    cases h
    exact V.zret rfl rfl d_Mo_readsSum_13 ⟨rfl, rfl⟩
abbrev m_Mo_endsPiece : MI := (⟨"ShadeTownModel", "endsPiece", "()V"⟩, prog_13_method_39_code, 1, (Option.none : Option Jvm.ClassFile.FieldType))
theorem d_Mo_endsPiece_0 : decode prog_13_method_39_code 0 = .ok (.aload_n 0, 1) := by decide +kernel
theorem d_Mo_endsPiece_1 : decode prog_13_method_39_code 1 = .ok (.invokevirtual 245, 3) := by decide +kernel
theorem d_Mo_endsPiece_4 : decode prog_13_method_39_code 4 = .ok (.bipush 10, 2) := by decide +kernel
theorem d_Mo_endsPiece_39 : decode prog_13_method_39_code 39 = .ok (.return_, 1) := by decide +kernel
theorem d_Mo_endsPiece_9 : decode prog_13_method_39_code 9 = .ok (.aload_n 0, 1) := by decide +kernel
theorem d_Mo_endsPiece_10 : decode prog_13_method_39_code 10 = .ok (.bipush 10, 2) := by decide +kernel
theorem d_Mo_endsPiece_12 : decode prog_13_method_39_code 12 = .ok (.iconst 0, 1) := by decide +kernel
theorem d_Mo_endsPiece_13 : decode prog_13_method_39_code 13 = .ok (.invokevirtual 248, 3) := by decide +kernel
theorem d_Mo_endsPiece_16 : decode prog_13_method_39_code 16 = .ok (.aload_n 0, 1) := by decide +kernel
theorem d_Mo_endsPiece_17 : decode prog_13_method_39_code 17 = .ok (.aload_n 0, 1) := by decide +kernel
theorem d_Mo_endsPiece_18 : decode prog_13_method_39_code 18 = .ok (.getfield 242, 3) := by decide +kernel
theorem d_Mo_endsPiece_21 : decode prog_13_method_39_code 21 = .ok (.iconst 1, 1) := by decide +kernel
theorem d_Mo_endsPiece_22 : decode prog_13_method_39_code 22 = .ok (.isub, 1) := by decide +kernel
theorem d_Mo_endsPiece_23 : decode prog_13_method_39_code 23 = .ok (.putfield 242, 3) := by decide +kernel
theorem d_Mo_endsPiece_26 : decode prog_13_method_39_code 26 = .ok (.aload_n 0, 1) := by decide +kernel
theorem d_Mo_endsPiece_27 : decode prog_13_method_39_code 27 = .ok (.aload_n 0, 1) := by decide +kernel
theorem d_Mo_endsPiece_28 : decode prog_13_method_39_code 28 = .ok (.getfield 239, 3) := by decide +kernel
theorem d_Mo_endsPiece_31 : decode prog_13_method_39_code 31 = .ok (.iconst 1, 1) := by decide +kernel
theorem d_Mo_endsPiece_32 : decode prog_13_method_39_code 32 = .ok (.isub, 1) := by decide +kernel
theorem d_Mo_endsPiece_33 : decode prog_13_method_39_code 33 = .ok (.putfield 239, 3) := by decide +kernel
theorem d_Mo_endsPiece_36 : decode prog_13_method_39_code 36 = .ok (.goto (-36), 3) := by decide +kernel
theorem d_Mo_endsPiece_6 : decode prog_13_method_39_code 6 = .ok (.if_icmp .ne 33, 3) := by decide +kernel
def B_Mo_endsPiece_l0 (N : Nat) (rec : Mem → Option (Mem)) (σ : Mem) : Option (Mem) :=
  bnd1 (f_Mo_waitTop σ) fun r1 =>
  if r1 = 10 then
    (bnd1 (f_Mo_notes σ 10 0) fun σ13 =>
    letv (sI σ13 65 17 ((mI σ13 65 17) - 1)) fun σ23 =>
    letv (sI σ23 65 15 ((mI σ23 65 15) - 1)) fun σ33 =>
    rec σ33)
  else
    (some σ)
def L_Mo_endsPiece_l0 (N : Nat) : Nat → Mem → Option (Mem)
  | 0, _ => none
  | k + 1, σ => B_Mo_endsPiece_l0 N (L_Mo_endsPiece_l0 N k) σ
set_option maxHeartbeats 4000000 in
set_option maxRecDepth 20000 in
theorem cL_Mo_endsPiece_l0 (Z : ZX) {Y : YX} {post : Option Value → Mem → Prop} {N : Nat} {Good : Mem → Prop} (hR : ∀ (σr : Mem), Good σr → post none σr) : ∀ (k : Nat) (σ : Mem) (res : Mem), L_Mo_endsPiece_l0 N k σ = some res → Good res → V (mkB Z) Y m_Mo_endsPiece 1 (QP (mkB Z) Y nC 0 0 post) 0 0 nC σ 0 [(0, rf Z 65)] [] := by
  intro k
  induction k with
  | zero => intro σ res h; cases h
  | succ k ih =>
    intro σ res h hg
    replace h : B_Mo_endsPiece_l0 N (L_Mo_endsPiece_l0 N k) σ = some res := h
    unfold B_Mo_endsPiece_l0 at h
    refine V.aload_n d_Mo_endsPiece_0 rfl 0 rfl ?_
    obtain ⟨r1, h1, h⟩ := bnd1_e h
    refine V.vI (as := []) (st := []) (c_Mo_waitTop Z h1) k_Mo_waitTop lk_Mo_245 (by decide) rfl (by decide) ly_65 ok_Mo.1 rfl (Nat.le_of_ble_eq_true rfl) d_Mo_endsPiece_1 ?_
    refine V.bipush (v := 10) d_Mo_endsPiece_4 (by decide) ?_
    refine V.icmp_ne (tgt := 39) d_Mo_endsPiece_6 (by decide) (fun hc6 => ?_) (fun hc6 => ?_)
    · replace h := ite_f hc6 h
      cases h
      exact V.vret rfl d_Mo_endsPiece_39 (hR _ hg)
    · replace h := ite_t hc6 h
      refine V.aload_n d_Mo_endsPiece_9 rfl 0 rfl ?_
      refine V.bipush (v := 10) d_Mo_endsPiece_10 (by decide) ?_
      refine V.iconst (v := 0) d_Mo_endsPiece_12 (by decide) ?_
      obtain ⟨σ13, h1, h⟩ := bnd1_e h
      refine V.vN (as := [.int 10, .int 0]) (st := []) (c_Mo_notes Z h1) k_Mo_notes lk_Mo_248 (by decide) rfl (by decide) ly_65 ok_Mo.1 rfl (Nat.le_of_ble_eq_true rfl) d_Mo_endsPiece_13 ?_
      refine V.aload_n d_Mo_endsPiece_16 rfl 0 rfl ?_
      refine V.aload_n d_Mo_endsPiece_17 rfl 0 rfl ?_
      refine V.getI ok_Mo fl_Mo_242 (by decide) (by decide) ly_65 rfl d_Mo_endsPiece_18 ?_
      refine V.iconst (v := 1) d_Mo_endsPiece_21 (by decide) ?_
      refine V.isub d_Mo_endsPiece_22 ?_
      obtain ⟨σ23, e_σ23, h⟩ := letv_e h
      refine V.putI ok_Mo fl_Mo_242 (by decide) (by decide) ly_65 rfl rfl rfl rfl d_Mo_endsPiece_23 (V.mem e_σ23 ?_)
      refine V.aload_n d_Mo_endsPiece_26 rfl 0 rfl ?_
      refine V.aload_n d_Mo_endsPiece_27 rfl 0 rfl ?_
      refine V.getI ok_Mo fl_Mo_239 (by decide) (by decide) ly_65 rfl d_Mo_endsPiece_28 ?_
      refine V.iconst (v := 1) d_Mo_endsPiece_31 (by decide) ?_
      refine V.isub d_Mo_endsPiece_32 ?_
      obtain ⟨σ33, e_σ33, h⟩ := letv_e h
      refine V.putI ok_Mo fl_Mo_239 (by decide) (by decide) ly_65 rfl rfl rfl rfl d_Mo_endsPiece_33 (V.mem e_σ33 ?_)
      refine V.goto (tgt := 0) d_Mo_endsPiece_36 (by decide) ?_
      exact V.pick [0] rfl (ih _ _ h hg)
def f_Mo_endsPiece (N : Nat) (σ : Mem) : Option (Mem) :=
  L_Mo_endsPiece_l0 N N σ
set_option maxHeartbeats 4000000 in
set_option maxRecDepth 20000 in
theorem c_Mo_endsPiece (Z : ZX) {N : Nat} {σ : Mem} {σ' : Mem} (h : f_Mo_endsPiece N σ = some σ') : CN Z 1 m_Mo_endsPiece [rf Z 65] σ σ' := by
  refine Ct.of (by decide +kernel) (Nat.le_of_ble_eq_true rfl) (fun Y => ?_)
  show V (mkB Z) Y m_Mo_endsPiece 1 (QP (mkB Z) Y nC 0 0 (fun v t => v = none ∧ t = σ')) 0 0 nC σ 0 [(0, rf Z 65)] []
  unfold f_Mo_endsPiece at h
  refine V.pick [0] rfl (cL_Mo_endsPiece_l0 Z (Good := fun z => z = _) (fun r0m he => ?_) N  _ _ h rfl)
  · cases he
    exact ⟨rfl, rfl⟩
abbrev m_Mo_readsCompared : MI := (⟨"ShadeTownModel", "readsCompared", "()Z"⟩, prog_13_method_42_code, 2, (Option.some Jvm.ClassFile.FieldType.boolean))
theorem d_Mo_readsCompared_0 : decode prog_13_method_42_code 0 = .ok (.aload_n 0, 1) := by decide +kernel
theorem d_Mo_readsCompared_1 : decode prog_13_method_42_code 1 = .ok (.invokevirtual 274, 3) := by decide +kernel
theorem k_Mo_readsSum : MOk m_Mo_readsSum 0 ∧ IOk m_Mo_readsSum := ⟨⟨atG 1653 (by decide +kernel) rfl, atG 122 (by decide +kernel) rfl, ⟨by decide, by decide⟩, by decide +kernel, by decide⟩, atG 1652 (by decide +kernel) rfl, atG 51 (by decide +kernel) rfl⟩
theorem lk_Mo_274 : Cond.methodLink "ShadeTownModel" 274 ⟨"ShadeTownModel", "readsSum", "()Z"⟩ ∈ tblG := atG 1650 (by decide +kernel) rfl
theorem d_Mo_readsCompared_9 : decode prog_13_method_42_code 9 = .ok (.aload_n 0, 1) := by decide +kernel
theorem d_Mo_readsCompared_10 : decode prog_13_method_42_code 10 = .ok (.invokevirtual 218, 3) := by decide +kernel
theorem d_Mo_readsCompared_13 : decode prog_13_method_42_code 13 = .ok (.bipush 60, 2) := by decide +kernel
theorem d_Mo_readsCompared_23 : decode prog_13_method_42_code 23 = .ok (.aload_n 0, 1) := by decide +kernel
theorem d_Mo_readsCompared_24 : decode prog_13_method_42_code 24 = .ok (.invokevirtual 218, 3) := by decide +kernel
theorem d_Mo_readsCompared_27 : decode prog_13_method_42_code 27 = .ok (.bipush 62, 2) := by decide +kernel
theorem d_Mo_readsCompared_37 : decode prog_13_method_42_code 37 = .ok (.aload_n 0, 1) := by decide +kernel
theorem d_Mo_readsCompared_38 : decode prog_13_method_42_code 38 = .ok (.invokevirtual 218, 3) := by decide +kernel
theorem d_Mo_readsCompared_41 : decode prog_13_method_42_code 41 = .ok (.bipush 61, 2) := by decide +kernel
theorem d_Mo_readsCompared_51 : decode prog_13_method_42_code 51 = .ok (.iconst (-1), 1) := by decide +kernel
theorem d_Mo_readsCompared_46 : decode prog_13_method_42_code 46 = .ok (.bipush 9, 2) := by decide +kernel
theorem d_Mo_readsCompared_48 : decode prog_13_method_42_code 48 = .ok (.goto 4, 3) := by decide +kernel
theorem d_Mo_readsCompared_43 : decode prog_13_method_42_code 43 = .ok (.if_icmp .ne 8, 3) := by decide +kernel
theorem d_Mo_readsCompared_32 : decode prog_13_method_42_code 32 = .ok (.bipush 8, 2) := by decide +kernel
theorem d_Mo_readsCompared_34 : decode prog_13_method_42_code 34 = .ok (.goto 18, 3) := by decide +kernel
theorem d_Mo_readsCompared_29 : decode prog_13_method_42_code 29 = .ok (.if_icmp .ne 8, 3) := by decide +kernel
theorem d_Mo_readsCompared_18 : decode prog_13_method_42_code 18 = .ok (.bipush 7, 2) := by decide +kernel
theorem d_Mo_readsCompared_20 : decode prog_13_method_42_code 20 = .ok (.goto 32, 3) := by decide +kernel
theorem d_Mo_readsCompared_15 : decode prog_13_method_42_code 15 = .ok (.if_icmp .ne 8, 3) := by decide +kernel
theorem d_Mo_readsCompared_52 : decode prog_13_method_42_code 52 = .ok (.istore_n 1, 1) := by decide +kernel
theorem d_Mo_readsCompared_53 : decode prog_13_method_42_code 53 = .ok (.iload_n 1, 1) := by decide +kernel
theorem d_Mo_readsCompared_54 : decode prog_13_method_42_code 54 = .ok (.iconst (-1), 1) := by decide +kernel
theorem d_Mo_readsCompared_68 : decode prog_13_method_42_code 68 = .ok (.aload_n 0, 1) := by decide +kernel
theorem d_Mo_readsCompared_69 : decode prog_13_method_42_code 69 = .ok (.aload_n 0, 1) := by decide +kernel
theorem d_Mo_readsCompared_70 : decode prog_13_method_42_code 70 = .ok (.getfield 212, 3) := by decide +kernel
theorem d_Mo_readsCompared_73 : decode prog_13_method_42_code 73 = .ok (.iconst 1, 1) := by decide +kernel
theorem d_Mo_readsCompared_74 : decode prog_13_method_42_code 74 = .ok (.iadd, 1) := by decide +kernel
theorem d_Mo_readsCompared_75 : decode prog_13_method_42_code 75 = .ok (.putfield 212, 3) := by decide +kernel
theorem d_Mo_readsCompared_78 : decode prog_13_method_42_code 78 = .ok (.aload_n 0, 1) := by decide +kernel
theorem d_Mo_readsCompared_79 : decode prog_13_method_42_code 79 = .ok (.invokevirtual 274, 3) := by decide +kernel
theorem d_Mo_readsCompared_87 : decode prog_13_method_42_code 87 = .ok (.aload_n 0, 1) := by decide +kernel
theorem d_Mo_readsCompared_88 : decode prog_13_method_42_code 88 = .ok (.iload_n 1, 1) := by decide +kernel
theorem d_Mo_readsCompared_89 : decode prog_13_method_42_code 89 = .ok (.iconst 0, 1) := by decide +kernel
theorem d_Mo_readsCompared_90 : decode prog_13_method_42_code 90 = .ok (.invokevirtual 248, 3) := by decide +kernel
theorem d_Mo_readsCompared_93 : decode prog_13_method_42_code 93 = .ok (.aload_n 0, 1) := by decide +kernel
theorem d_Mo_readsCompared_94 : decode prog_13_method_42_code 94 = .ok (.invokevirtual 277, 3) := by decide +kernel
theorem k_Mo_endsPiece : MOk m_Mo_endsPiece 0 ∧ IOk m_Mo_endsPiece := ⟨⟨atG 1704 (by decide +kernel) rfl, atG 122 (by decide +kernel) rfl, ⟨by decide, by decide⟩, by decide +kernel, by decide⟩, atG 1703 (by decide +kernel) rfl, atG 62 (by decide +kernel) rfl⟩
theorem lk_Mo_277 : Cond.methodLink "ShadeTownModel" 277 ⟨"ShadeTownModel", "endsPiece", "()V"⟩ ∈ tblG := atG 1701 (by decide +kernel) rfl
theorem d_Mo_readsCompared_97 : decode prog_13_method_42_code 97 = .ok (.iconst 1, 1) := by decide +kernel
theorem d_Mo_readsCompared_98 : decode prog_13_method_42_code 98 = .ok (.ireturn, 1) := by decide +kernel
theorem d_Mo_readsCompared_85 : decode prog_13_method_42_code 85 = .ok (.iconst 0, 1) := by decide +kernel
theorem d_Mo_readsCompared_86 : decode prog_13_method_42_code 86 = .ok (.ireturn, 1) := by decide +kernel
theorem d_Mo_readsCompared_82 : decode prog_13_method_42_code 82 = .ok (.ifCond .ne 5, 3) := by decide +kernel
theorem d_Mo_readsCompared_58 : decode prog_13_method_42_code 58 = .ok (.aload_n 0, 1) := by decide +kernel
theorem d_Mo_readsCompared_59 : decode prog_13_method_42_code 59 = .ok (.iconst 1, 1) := by decide +kernel
theorem d_Mo_readsCompared_60 : decode prog_13_method_42_code 60 = .ok (.aload_n 0, 1) := by decide +kernel
theorem d_Mo_readsCompared_61 : decode prog_13_method_42_code 61 = .ok (.getfield 212, 3) := by decide +kernel
theorem d_Mo_readsCompared_64 : decode prog_13_method_42_code 64 = .ok (.invokevirtual 225, 3) := by decide +kernel
theorem d_Mo_readsCompared_67 : decode prog_13_method_42_code 67 = .ok (.ireturn, 1) := by decide +kernel
theorem d_Mo_readsCompared_55 : decode prog_13_method_42_code 55 = .ok (.if_icmp .ne 13, 3) := by decide +kernel
theorem d_Mo_readsCompared_7 : decode prog_13_method_42_code 7 = .ok (.iconst 0, 1) := by decide +kernel
theorem d_Mo_readsCompared_8 : decode prog_13_method_42_code 8 = .ok (.ireturn, 1) := by decide +kernel
theorem d_Mo_readsCompared_4 : decode prog_13_method_42_code 4 = .ok (.ifCond .ne 5, 3) := by decide +kernel
def f_Mo_readsCompared (N : Nat) (σ : Mem) : Option (Int32 × Mem) :=
  bnd2 (f_Mo_readsSum N σ) fun r1 σ1 =>
  if r1 = 0 then
    (some (0, σ1))
  else
    (bnd1 (f_Mo_here σ1) fun r10 =>
    bnd1 ((
      if r10 = 60 then
        (some 7)
      else
        (bnd1 (f_Mo_here σ1) fun r24 =>
        if r24 = 62 then
          (some 8)
        else
          (bnd1 (f_Mo_here σ1) fun r38 =>
          if r38 = 61 then
            (some 9)
          else
            (some (-1))))) : Option (Int32)) fun y15_s0 =>
    if y15_s0 = (-1) then
      (bnd2 (f_Mo_wrongAt σ1 1 (mI σ1 65 12)) fun r64 σ64 =>
      grd (decide (r64 &&& 1 = r64)) (some (r64, σ64)))
    else
      (letv (sI σ1 65 12 ((mI σ1 65 12) + 1)) fun σ75 =>
      bnd2 (f_Mo_readsSum N σ75) fun r79 σ79 =>
      if r79 = 0 then
        (some (0, σ79))
      else
        (bnd1 (f_Mo_notes σ79 y15_s0 0) fun σ90 =>
        bnd1 (f_Mo_endsPiece N σ90) fun σ94 =>
        some (1, σ94))))
set_option maxHeartbeats 4000000 in
set_option maxRecDepth 20000 in
theorem c_Mo_readsCompared (Z : ZX) {N : Nat} {σ : Mem} {r : Int32} {σ' : Mem} (h : f_Mo_readsCompared N σ = some (r, σ')) : CI Z 5 m_Mo_readsCompared [rf Z 65] σ r σ' := by
  refine Ct.of (by decide +kernel) (Nat.le_of_ble_eq_true rfl) (fun Y => ?_)
  show V (mkB Z) Y m_Mo_readsCompared 5 (QP (mkB Z) Y nC 0 0 (fun v t => v = some (.int r) ∧ t = σ')) 0 0 nC σ 0 [(0, rf Z 65)] []
  unfold f_Mo_readsCompared at h
  refine V.aload_n d_Mo_readsCompared_0 rfl 0 rfl ?_
  obtain ⟨r1, σ1, h1, h⟩ := bnd2_e h
  refine V.vI (as := []) (st := []) (c_Mo_readsSum Z h1) k_Mo_readsSum lk_Mo_274 (by decide) rfl (by decide) ly_65 ok_Mo.1 rfl (Nat.le_of_ble_eq_true rfl) d_Mo_readsCompared_1 ?_
  refine V.if_ne (tgt := 9) d_Mo_readsCompared_4 (by decide) (fun hc4 => ?_) (fun hc4 => ?_)
  · replace h := ite_f hc4 h
    refine V.aload_n d_Mo_readsCompared_9 rfl 0 rfl ?_
    obtain ⟨r10, h1, h⟩ := bnd1_e h
    refine V.vI (as := []) (st := []) (c_Mo_here Z h1) k_Mo_here lk_Mo_218 (by decide) rfl (by decide) ly_65 ok_Mo.1 rfl (Nat.le_of_ble_eq_true rfl) d_Mo_readsCompared_10 ?_
    refine V.bipush (v := 60) d_Mo_readsCompared_13 (by decide) ?_
    obtain ⟨s15, h1, h⟩ := bnd1_e h
    have J15_52 : ∀ (y15_s0 : Int32), s15 = y15_s0 → V (mkB Z) Y m_Mo_readsCompared 5 (QP (mkB Z) Y nC 0 0 (fun v t => v = some (.int r) ∧ t = σ')) 0 0 nC σ1 52 [(0, rf Z 65)] [.int y15_s0] := by
      intro y15_s0 he
      rw [he] at h
      refine V.istore_n (lv' := [(1, .int y15_s0), (0, rf Z 65)]) d_Mo_readsCompared_52 rfl (by decide) rfl ?_
      refine V.iload_n d_Mo_readsCompared_53 rfl 0 rfl ?_
      refine V.iconst (v := (-1)) d_Mo_readsCompared_54 (by decide) ?_
      refine V.icmp_ne (tgt := 68) d_Mo_readsCompared_55 (by decide) (fun hc55 => ?_) (fun hc55 => ?_)
      · replace h := ite_f hc55 h
        refine V.aload_n d_Mo_readsCompared_68 rfl 1 rfl ?_
        refine V.aload_n d_Mo_readsCompared_69 rfl 1 rfl ?_
        refine V.getI ok_Mo fl_Mo_212 (by decide) (by decide) ly_65 rfl d_Mo_readsCompared_70 ?_
        refine V.iconst (v := 1) d_Mo_readsCompared_73 (by decide) ?_
        refine V.iadd d_Mo_readsCompared_74 ?_
        obtain ⟨σ75, e_σ75, h⟩ := letv_e h
        refine V.putI ok_Mo fl_Mo_212 (by decide) (by decide) ly_65 rfl rfl rfl rfl d_Mo_readsCompared_75 (V.mem e_σ75 ?_)
        refine V.aload_n d_Mo_readsCompared_78 rfl 1 rfl ?_
        obtain ⟨r79, σ79, h1, h⟩ := bnd2_e h
        refine V.vI (as := []) (st := []) (c_Mo_readsSum Z h1) k_Mo_readsSum lk_Mo_274 (by decide) rfl (by decide) ly_65 ok_Mo.1 rfl (Nat.le_of_ble_eq_true rfl) d_Mo_readsCompared_79 ?_
        refine V.if_ne (tgt := 87) d_Mo_readsCompared_82 (by decide) (fun hc82 => ?_) (fun hc82 => ?_)
        · replace h := ite_f hc82 h
          refine V.aload_n d_Mo_readsCompared_87 rfl 1 rfl ?_
          refine V.iload_n d_Mo_readsCompared_88 rfl 0 rfl ?_
          refine V.iconst (v := 0) d_Mo_readsCompared_89 (by decide) ?_
          obtain ⟨σ90, h1, h⟩ := bnd1_e h
          refine V.vN (as := [.int y15_s0, .int 0]) (st := []) (c_Mo_notes Z h1) k_Mo_notes lk_Mo_248 (by decide) rfl (by decide) ly_65 ok_Mo.1 rfl (Nat.le_of_ble_eq_true rfl) d_Mo_readsCompared_90 ?_
          refine V.aload_n d_Mo_readsCompared_93 rfl 1 rfl ?_
          obtain ⟨σ94, h1, h⟩ := bnd1_e h
          refine V.vN (as := []) (st := []) (c_Mo_endsPiece Z h1) k_Mo_endsPiece lk_Mo_277 (by decide) rfl (by decide) ly_65 ok_Mo.1 rfl (Nat.le_of_ble_eq_true rfl) d_Mo_readsCompared_94 ?_
          refine V.iconst (v := 1) d_Mo_readsCompared_97 (by decide) ?_
          cases h
          exact V.zret rfl rfl d_Mo_readsCompared_98 ⟨rfl, rfl⟩
        · replace h := ite_t hc82 h
          refine V.iconst (v := 0) d_Mo_readsCompared_85 (by decide) ?_
          cases h
          exact V.zret rfl rfl d_Mo_readsCompared_86 ⟨rfl, rfl⟩
      · replace h := ite_t hc55 h
        refine V.aload_n d_Mo_readsCompared_58 rfl 1 rfl ?_
        refine V.iconst (v := 1) d_Mo_readsCompared_59 (by decide) ?_
        refine V.aload_n d_Mo_readsCompared_60 rfl 1 rfl ?_
        refine V.getI ok_Mo fl_Mo_212 (by decide) (by decide) ly_65 rfl d_Mo_readsCompared_61 ?_
        obtain ⟨r64, σ64, h1, h⟩ := bnd2_e h
        refine V.vI (as := [.int 1, .int (mI σ1 65 12)]) (st := []) (c_Mo_wrongAt Z h1) k_Mo_wrongAt lk_Mo_225 (by decide) rfl (by decide) ly_65 ok_Mo.1 rfl (Nat.le_of_ble_eq_true rfl) d_Mo_readsCompared_64 ?_
        obtain ⟨hz, h⟩ := grd_e h
        have hz := congrArg Value.int (of_decide_eq_true hz)
        cases h
        exact V.zret rfl hz d_Mo_readsCompared_67 ⟨rfl, rfl⟩
    replace h := h1
    refine V.icmp_ne (tgt := 23) d_Mo_readsCompared_15 (by decide) (fun hc15 => ?_) (fun hc15 => ?_)
    · replace h := ite_f hc15 h
      refine V.aload_n d_Mo_readsCompared_23 rfl 0 rfl ?_
      obtain ⟨r24, h1, h⟩ := bnd1_e h
      refine V.vI (as := []) (st := []) (c_Mo_here Z h1) k_Mo_here lk_Mo_218 (by decide) rfl (by decide) ly_65 ok_Mo.1 rfl (Nat.le_of_ble_eq_true rfl) d_Mo_readsCompared_24 ?_
      refine V.bipush (v := 62) d_Mo_readsCompared_27 (by decide) ?_
      refine V.icmp_ne (tgt := 37) d_Mo_readsCompared_29 (by decide) (fun hc29 => ?_) (fun hc29 => ?_)
      · replace h := ite_f hc29 h
        refine V.aload_n d_Mo_readsCompared_37 rfl 0 rfl ?_
        obtain ⟨r38, h1, h⟩ := bnd1_e h
        refine V.vI (as := []) (st := []) (c_Mo_here Z h1) k_Mo_here lk_Mo_218 (by decide) rfl (by decide) ly_65 ok_Mo.1 rfl (Nat.le_of_ble_eq_true rfl) d_Mo_readsCompared_38 ?_
        refine V.bipush (v := 61) d_Mo_readsCompared_41 (by decide) ?_
        refine V.icmp_ne (tgt := 51) d_Mo_readsCompared_43 (by decide) (fun hc43 => ?_) (fun hc43 => ?_)
        · replace h := ite_f hc43 h
          refine V.iconst (v := (-1)) d_Mo_readsCompared_51 (by decide) ?_
          exact V.pick [0] rfl (J15_52 _ (Option.some.inj h).symm)
        · replace h := ite_t hc43 h
          refine V.bipush (v := 9) d_Mo_readsCompared_46 (by decide) ?_
          refine V.goto (tgt := 52) d_Mo_readsCompared_48 (by decide) ?_
          exact V.pick [0] rfl (J15_52 _ (Option.some.inj h).symm)
      · replace h := ite_t hc29 h
        refine V.bipush (v := 8) d_Mo_readsCompared_32 (by decide) ?_
        refine V.goto (tgt := 52) d_Mo_readsCompared_34 (by decide) ?_
        exact V.pick [0] rfl (J15_52 _ (Option.some.inj h).symm)
    · replace h := ite_t hc15 h
      refine V.bipush (v := 7) d_Mo_readsCompared_18 (by decide) ?_
      refine V.goto (tgt := 52) d_Mo_readsCompared_20 (by decide) ?_
      exact V.pick [0] rfl (J15_52 _ (Option.some.inj h).symm)
  · replace h := ite_t hc4 h
    refine V.iconst (v := 0) d_Mo_readsCompared_7 (by decide) ?_
    cases h
    exact V.zret rfl rfl d_Mo_readsCompared_8 ⟨rfl, rfl⟩
abbrev m_Mo_lands : MI := (⟨"ShadeTownModel", "lands", "(Z)V"⟩, prog_13_method_40_code, 3, (Option.none : Option Jvm.ClassFile.FieldType))
theorem d_Mo_lands_0 : decode prog_13_method_40_code 0 = .ok (.aload_n 0, 1) := by decide +kernel
theorem d_Mo_lands_1 : decode prog_13_method_40_code 1 = .ok (.invokevirtual 245, 3) := by decide +kernel
theorem d_Mo_lands_4 : decode prog_13_method_40_code 4 = .ok (.bipush 11, 2) := by decide +kernel
theorem d_Mo_lands_9 : decode prog_13_method_40_code 9 = .ok (.iload_n 1, 1) := by decide +kernel
theorem d_Mo_lands_13 : decode prog_13_method_40_code 13 = .ok (.aload_n 0, 1) := by decide +kernel
theorem d_Mo_lands_14 : decode prog_13_method_40_code 14 = .ok (.invokevirtual 245, 3) := by decide +kernel
theorem d_Mo_lands_17 : decode prog_13_method_40_code 17 = .ok (.bipush 12, 2) := by decide +kernel
theorem d_Mo_lands_19 : decode prog_13_method_40_code 19 = .ok (.if_icmp .ne 54, 3) := by decide +kernel
theorem d_Mo_lands_10 : decode prog_13_method_40_code 10 = .ok (.ifCond .eq 63, 3) := by decide +kernel
theorem d_Mo_lands_6 : decode prog_13_method_40_code 6 = .ok (.if_icmp .eq 16, 3) := by decide +kernel
theorem d_Mo_lands_22 : decode prog_13_method_40_code 22 = .ok (.aload_n 0, 1) := by decide +kernel
theorem d_Mo_lands_23 : decode prog_13_method_40_code 23 = .ok (.getfield 35, 3) := by decide +kernel
theorem d_Mo_lands_26 : decode prog_13_method_40_code 26 = .ok (.aload_n 0, 1) := by decide +kernel
theorem d_Mo_lands_27 : decode prog_13_method_40_code 27 = .ok (.getfield 242, 3) := by decide +kernel
theorem d_Mo_lands_30 : decode prog_13_method_40_code 30 = .ok (.iconst 1, 1) := by decide +kernel
theorem d_Mo_lands_31 : decode prog_13_method_40_code 31 = .ok (.isub, 1) := by decide +kernel
theorem d_Mo_lands_32 : decode prog_13_method_40_code 32 = .ok (.iaload, 1) := by decide +kernel
theorem d_Mo_lands_33 : decode prog_13_method_40_code 33 = .ok (.ldc 238, 2) := by decide +kernel
theorem d_Mo_lands_35 : decode prog_13_method_40_code 35 = .ok (.irem, 1) := by decide +kernel
theorem d_Mo_lands_36 : decode prog_13_method_40_code 36 = .ok (.istore_n 2, 1) := by decide +kernel
theorem d_Mo_lands_37 : decode prog_13_method_40_code 37 = .ok (.aload_n 0, 1) := by decide +kernel
theorem d_Mo_lands_38 : decode prog_13_method_40_code 38 = .ok (.getfield 32, 3) := by decide +kernel
theorem d_Mo_lands_41 : decode prog_13_method_40_code 41 = .ok (.iload_n 2, 1) := by decide +kernel
theorem d_Mo_lands_42 : decode prog_13_method_40_code 42 = .ok (.ldc 238, 2) := by decide +kernel
theorem d_Mo_lands_44 : decode prog_13_method_40_code 44 = .ok (.aload_n 0, 1) := by decide +kernel
theorem d_Mo_lands_45 : decode prog_13_method_40_code 45 = .ok (.getfield 32, 3) := by decide +kernel
theorem d_Mo_lands_48 : decode prog_13_method_40_code 48 = .ok (.iload_n 2, 1) := by decide +kernel
theorem d_Mo_lands_49 : decode prog_13_method_40_code 49 = .ok (.iaload, 1) := by decide +kernel
theorem d_Mo_lands_50 : decode prog_13_method_40_code 50 = .ok (.ldc 238, 2) := by decide +kernel
theorem d_Mo_lands_52 : decode prog_13_method_40_code 52 = .ok (.idiv, 1) := by decide +kernel
theorem d_Mo_lands_53 : decode prog_13_method_40_code 53 = .ok (.imul, 1) := by decide +kernel
theorem d_Mo_lands_54 : decode prog_13_method_40_code 54 = .ok (.aload_n 0, 1) := by decide +kernel
theorem d_Mo_lands_55 : decode prog_13_method_40_code 55 = .ok (.getfield 235, 3) := by decide +kernel
theorem d_Mo_lands_58 : decode prog_13_method_40_code 58 = .ok (.iadd, 1) := by decide +kernel
theorem d_Mo_lands_59 : decode prog_13_method_40_code 59 = .ok (.iastore, 1) := by decide +kernel
theorem d_Mo_lands_60 : decode prog_13_method_40_code 60 = .ok (.aload_n 0, 1) := by decide +kernel
theorem d_Mo_lands_61 : decode prog_13_method_40_code 61 = .ok (.aload_n 0, 1) := by decide +kernel
theorem d_Mo_lands_62 : decode prog_13_method_40_code 62 = .ok (.getfield 242, 3) := by decide +kernel
theorem d_Mo_lands_65 : decode prog_13_method_40_code 65 = .ok (.iconst 1, 1) := by decide +kernel
theorem d_Mo_lands_66 : decode prog_13_method_40_code 66 = .ok (.isub, 1) := by decide +kernel
theorem d_Mo_lands_67 : decode prog_13_method_40_code 67 = .ok (.putfield 242, 3) := by decide +kernel
theorem d_Mo_lands_70 : decode prog_13_method_40_code 70 = .ok (.goto (-70), 3) := by decide +kernel
theorem d_Mo_lands_73 : decode prog_13_method_40_code 73 = .ok (.return_, 1) := by decide +kernel
def B_Mo_lands_l0 (N : Nat) (a1 : Int32) (rec : Mem → Option (Mem)) (σ : Mem) : Option (Mem) :=
  bnd1 (f_Mo_waitTop σ) fun r1 =>
  bnd1 ((
    if r1 = 11 then
      (some 0)
    else
      (if a1 = 0 then
        (some 1)
      else
        (bnd1 (f_Mo_waitTop σ) fun r14 =>
        if r14 = 12 then
          (some 0)
        else
          (some 1)))) : Option (Nat)) fun t6b =>
  if t6b = 0 then
    (grd (inb ((mI σ 65 17) - 1) 260) <|
    letv ((mI σ 74 (((mI σ 65 17) - 1).toNatClampNeg)) - (mI σ 74 (((mI σ 65 17) - 1).toNatClampNeg)) / 1048576 * 1048576) fun v36 =>
    grd (inb v36 260) <|
    grd (inb v36 260) <|
    letv (sI σ 73 (v36.toNatClampNeg) ((1048576 * ((mI σ 73 (v36.toNatClampNeg)) / 1048576)) + (mI σ 65 16))) fun σ59 =>
    letv (sI σ59 65 17 ((mI σ59 65 17) - 1)) fun σ67 =>
    rec σ67)
  else
  (some σ)
def L_Mo_lands_l0 (N : Nat) (a1 : Int32) : Nat → Mem → Option (Mem)
  | 0, _ => none
  | k + 1, σ => B_Mo_lands_l0 N a1 (L_Mo_lands_l0 N a1 k) σ
set_option maxHeartbeats 4000000 in
set_option maxRecDepth 20000 in
theorem cL_Mo_lands_l0 (Z : ZX) {Y : YX} {Q : State → Prop} {N : Nat} {a1 : Int32} {Good : Mem → Prop} (hE : ∀ (σe : Mem), Good σe → V (mkB Z) Y m_Mo_lands 1 Q 0 0 nC σe 73 [] []) : ∀ (k : Nat) (σ : Mem) (res : Mem), L_Mo_lands_l0 N a1 k σ = some res → Good res → V (mkB Z) Y m_Mo_lands 1 Q 0 0 nC σ 0 [(0, rf Z 65), (1, .int a1)] [] := by
  intro k
  induction k with
  | zero => intro σ res h; cases h
  | succ k ih =>
    intro σ res h hg
    replace h : B_Mo_lands_l0 N a1 (L_Mo_lands_l0 N a1 k) σ = some res := h
    unfold B_Mo_lands_l0 at h
    refine V.aload_n d_Mo_lands_0 rfl 0 rfl ?_
    obtain ⟨r1, h1, h⟩ := bnd1_e h
    refine V.vI (as := []) (st := []) (c_Mo_waitTop Z h1) k_Mo_waitTop lk_Mo_245 (by decide) rfl (by decide) ly_65 ok_Mo.1 rfl (Nat.le_of_ble_eq_true rfl) d_Mo_lands_1 ?_
    refine V.bipush (v := 11) d_Mo_lands_4 (by decide) ?_
    obtain ⟨s6b, h1, h⟩ := bnd1_e h
    have J6b_22 : s6b = 0 → V (mkB Z) Y m_Mo_lands 1 Q 0 0 nC σ 22 [(0, rf Z 65), (1, .int a1)] [] := by
      intro he
      rw [he] at h
      replace h := ite_t rfl h
      refine V.aload_n d_Mo_lands_22 rfl 0 rfl ?_
      refine V.getR (r := 74) ok_Mo fl_Mo_35 (by decide) (by decide) ly_65 rfl d_Mo_lands_23 ?_
      refine V.aload_n d_Mo_lands_26 rfl 0 rfl ?_
      refine V.getI ok_Mo fl_Mo_242 (by decide) (by decide) ly_65 rfl d_Mo_lands_27 ?_
      refine V.iconst (v := 1) d_Mo_lands_30 (by decide) ?_
      refine V.isub d_Mo_lands_31 ?_
      obtain ⟨gq, h⟩ := grd_e h
      refine V.ra (by decide) ly_74 (inb_e gq) rfl d_Mo_lands_32 ?_
      refine V.ldc (v := 1048576) kc_Mo_238 d_Mo_lands_33 ?_
      refine V.irem d_Mo_lands_35 (by decide) ?_
      obtain ⟨v36, e_v36, h⟩ := letv_e h
      refine V.topI e_v36 ?_
      refine V.istore_n (lv' := [(2, .int v36), (0, rf Z 65), (1, .int a1)]) d_Mo_lands_36 rfl (by decide) rfl ?_
      refine V.aload_n d_Mo_lands_37 rfl 1 rfl ?_
      refine V.getR (r := 73) ok_Mo fl_Mo_32 (by decide) (by decide) ly_65 rfl d_Mo_lands_38 ?_
      refine V.iload_n d_Mo_lands_41 rfl 0 rfl ?_
      refine V.ldc (v := 1048576) kc_Mo_238 d_Mo_lands_42 ?_
      refine V.aload_n d_Mo_lands_44 rfl 1 rfl ?_
      refine V.getR (r := 73) ok_Mo fl_Mo_32 (by decide) (by decide) ly_65 rfl d_Mo_lands_45 ?_
      refine V.iload_n d_Mo_lands_48 rfl 0 rfl ?_
      obtain ⟨gq, h⟩ := grd_e h
      refine V.ra (by decide) ly_73 (inb_e gq) rfl d_Mo_lands_49 ?_
      refine V.ldc (v := 1048576) kc_Mo_238 d_Mo_lands_50 ?_
      refine V.idiv d_Mo_lands_52 (by decide) ?_
      refine V.imul d_Mo_lands_53 ?_
      refine V.aload_n d_Mo_lands_54 rfl 1 rfl ?_
      refine V.getI ok_Mo fl_Mo_235 (by decide) (by decide) ly_65 rfl d_Mo_lands_55 ?_
      refine V.iadd d_Mo_lands_58 ?_
      obtain ⟨gq, h⟩ := grd_e h
      obtain ⟨σ59, e_σ59, h⟩ := letv_e h
      refine V.wa (by decide) ly_73 (inb_e gq) rfl d_Mo_lands_59 e_σ59 ?_
      refine V.aload_n d_Mo_lands_60 rfl 1 rfl ?_
      refine V.aload_n d_Mo_lands_61 rfl 1 rfl ?_
      refine V.getI ok_Mo fl_Mo_242 (by decide) (by decide) ly_65 rfl d_Mo_lands_62 ?_
      refine V.iconst (v := 1) d_Mo_lands_65 (by decide) ?_
      refine V.isub d_Mo_lands_66 ?_
      obtain ⟨σ67, e_σ67, h⟩ := letv_e h
      refine V.putI ok_Mo fl_Mo_242 (by decide) (by decide) ly_65 rfl rfl rfl rfl d_Mo_lands_67 (V.mem e_σ67 ?_)
      refine V.goto (tgt := 0) d_Mo_lands_70 (by decide) ?_
      exact V.pick [1, 2] rfl (ih _ _ h hg)
    have J6b_73 : s6b = 1 → V (mkB Z) Y m_Mo_lands 1 Q 0 0 nC σ 73 [] [] := by
      intro he
      rw [he] at h
      replace h := ite_f (by decide) h
      cases h
      exact V.pick [] rfl (hE _ hg)
    replace h := h1
    refine V.icmp_eq (tgt := 22) d_Mo_lands_6 (by decide) (fun hc6 => ?_) (fun hc6 => ?_)
    · replace h := ite_t hc6 h
      exact V.pick [0, 1] rfl (J6b_22 (Option.some.inj h).symm)
    · replace h := ite_f hc6 h
      refine V.iload_n d_Mo_lands_9 rfl 1 rfl ?_
      refine V.if_eq (tgt := 73) d_Mo_lands_10 (by decide) (fun hc10 => ?_) (fun hc10 => ?_)
      · replace h := ite_t hc10 h
        exact V.pick [] rfl (J6b_73 (Option.some.inj h).symm)
      · replace h := ite_f hc10 h
        refine V.aload_n d_Mo_lands_13 rfl 0 rfl ?_
        obtain ⟨r14, h1, h⟩ := bnd1_e h
        refine V.vI (as := []) (st := []) (c_Mo_waitTop Z h1) k_Mo_waitTop lk_Mo_245 (by decide) rfl (by decide) ly_65 ok_Mo.1 rfl (Nat.le_of_ble_eq_true rfl) d_Mo_lands_14 ?_
        refine V.bipush (v := 12) d_Mo_lands_17 (by decide) ?_
        refine V.icmp_ne (tgt := 73) d_Mo_lands_19 (by decide) (fun hc19 => ?_) (fun hc19 => ?_)
        · replace h := ite_f hc19 h
          exact V.pick [] rfl (J6b_73 (Option.some.inj h).symm)
        · replace h := ite_t hc19 h
          exact V.pick [0, 1] rfl (J6b_22 (Option.some.inj h).symm)
def f_Mo_lands (N : Nat) (σ : Mem) (a1 : Int32) : Option (Mem) :=
  bnd1 (L_Mo_lands_l0 N a1 N σ) fun σ0_ =>
  some σ0_
set_option maxHeartbeats 4000000 in
set_option maxRecDepth 20000 in
theorem c_Mo_lands (Z : ZX) {N : Nat} {σ : Mem} {a1 : Int32} {σ' : Mem} (h : f_Mo_lands N σ a1 = some σ') : CN Z 1 m_Mo_lands [rf Z 65, .int a1] σ σ' := by
  refine Ct.of (by decide +kernel) (Nat.le_of_ble_eq_true rfl) (fun Y => ?_)
  show V (mkB Z) Y m_Mo_lands 1 (QP (mkB Z) Y nC 0 0 (fun v t => v = none ∧ t = σ')) 0 0 nC σ 0 [(0, rf Z 65), (1, .int a1)] []
  unfold f_Mo_lands at h
  obtain ⟨x0_, h1, h⟩ := bnd1_e h
  refine V.pick [0, 1] rfl (cL_Mo_lands_l0 Z (Good := fun z => x0_ = z) (fun σ0_ he => ?_) N  _ _ h1 rfl)
  · rw [he] at h
    cases h
    exact V.vret rfl d_Mo_lands_73 ⟨rfl, rfl⟩
abbrev m_Mo_jumps : MI := (⟨"ShadeTownModel", "jumps", "(I)V"⟩, prog_13_method_41_code, 2, (Option.none : Option Jvm.ClassFile.FieldType))
theorem d_Mo_jumps_0 : decode prog_13_method_41_code 0 = .ok (.aload_n 0, 1) := by decide +kernel
theorem d_Mo_jumps_1 : decode prog_13_method_41_code 1 = .ok (.getfield 35, 3) := by decide +kernel
theorem d_Mo_jumps_4 : decode prog_13_method_41_code 4 = .ok (.aload_n 0, 1) := by decide +kernel
theorem d_Mo_jumps_5 : decode prog_13_method_41_code 5 = .ok (.getfield 242, 3) := by decide +kernel
theorem d_Mo_jumps_8 : decode prog_13_method_41_code 8 = .ok (.ldc 238, 2) := by decide +kernel
theorem d_Mo_jumps_10 : decode prog_13_method_41_code 10 = .ok (.iload_n 1, 1) := by decide +kernel
theorem d_Mo_jumps_11 : decode prog_13_method_41_code 11 = .ok (.imul, 1) := by decide +kernel
theorem d_Mo_jumps_12 : decode prog_13_method_41_code 12 = .ok (.aload_n 0, 1) := by decide +kernel
theorem d_Mo_jumps_13 : decode prog_13_method_41_code 13 = .ok (.getfield 235, 3) := by decide +kernel
theorem d_Mo_jumps_16 : decode prog_13_method_41_code 16 = .ok (.iadd, 1) := by decide +kernel
theorem d_Mo_jumps_17 : decode prog_13_method_41_code 17 = .ok (.iastore, 1) := by decide +kernel
theorem d_Mo_jumps_18 : decode prog_13_method_41_code 18 = .ok (.aload_n 0, 1) := by decide +kernel
theorem d_Mo_jumps_19 : decode prog_13_method_41_code 19 = .ok (.aload_n 0, 1) := by decide +kernel
theorem d_Mo_jumps_20 : decode prog_13_method_41_code 20 = .ok (.getfield 242, 3) := by decide +kernel
theorem d_Mo_jumps_23 : decode prog_13_method_41_code 23 = .ok (.iconst 1, 1) := by decide +kernel
theorem d_Mo_jumps_24 : decode prog_13_method_41_code 24 = .ok (.iadd, 1) := by decide +kernel
theorem d_Mo_jumps_25 : decode prog_13_method_41_code 25 = .ok (.putfield 242, 3) := by decide +kernel
theorem d_Mo_jumps_28 : decode prog_13_method_41_code 28 = .ok (.aload_n 0, 1) := by decide +kernel
theorem d_Mo_jumps_29 : decode prog_13_method_41_code 29 = .ok (.iload_n 1, 1) := by decide +kernel
theorem d_Mo_jumps_30 : decode prog_13_method_41_code 30 = .ok (.iconst 0, 1) := by decide +kernel
theorem d_Mo_jumps_31 : decode prog_13_method_41_code 31 = .ok (.invokevirtual 248, 3) := by decide +kernel
theorem d_Mo_jumps_34 : decode prog_13_method_41_code 34 = .ok (.aload_n 0, 1) := by decide +kernel
theorem d_Mo_jumps_35 : decode prog_13_method_41_code 35 = .ok (.aload_n 0, 1) := by decide +kernel
theorem d_Mo_jumps_36 : decode prog_13_method_41_code 36 = .ok (.getfield 212, 3) := by decide +kernel
theorem d_Mo_jumps_39 : decode prog_13_method_41_code 39 = .ok (.iconst 1, 1) := by decide +kernel
theorem d_Mo_jumps_40 : decode prog_13_method_41_code 40 = .ok (.iadd, 1) := by decide +kernel
theorem d_Mo_jumps_41 : decode prog_13_method_41_code 41 = .ok (.putfield 212, 3) := by decide +kernel
theorem d_Mo_jumps_44 : decode prog_13_method_41_code 44 = .ok (.return_, 1) := by decide +kernel
def f_Mo_jumps (σ : Mem) (a1 : Int32) : Option (Mem) :=
  grd (inb (mI σ 65 17) 260) <|
  letv (sI σ 74 ((mI σ 65 17).toNatClampNeg) ((1048576 * a1) + (mI σ 65 16))) fun σ17 =>
  letv (sI σ17 65 17 ((mI σ17 65 17) + 1)) fun σ25 =>
  bnd1 (f_Mo_notes σ25 a1 0) fun σ31 =>
  letv (sI σ31 65 12 ((mI σ31 65 12) + 1)) fun σ41 =>
  some σ41
set_option maxHeartbeats 4000000 in
set_option maxRecDepth 20000 in
theorem c_Mo_jumps (Z : ZX) {σ : Mem} {a1 : Int32} {σ' : Mem} (h : f_Mo_jumps σ a1 = some σ') : CN Z 1 m_Mo_jumps [rf Z 65, .int a1] σ σ' := by
  refine Ct.of (by decide +kernel) (Nat.le_of_ble_eq_true rfl) (fun Y => ?_)
  show V (mkB Z) Y m_Mo_jumps 1 (QP (mkB Z) Y nC 0 0 (fun v t => v = none ∧ t = σ')) 0 0 nC σ 0 [(0, rf Z 65), (1, .int a1)] []
  unfold f_Mo_jumps at h
  refine V.aload_n d_Mo_jumps_0 rfl 0 rfl ?_
  refine V.getR (r := 74) ok_Mo fl_Mo_35 (by decide) (by decide) ly_65 rfl d_Mo_jumps_1 ?_
  refine V.aload_n d_Mo_jumps_4 rfl 0 rfl ?_
  refine V.getI ok_Mo fl_Mo_242 (by decide) (by decide) ly_65 rfl d_Mo_jumps_5 ?_
  refine V.ldc (v := 1048576) kc_Mo_238 d_Mo_jumps_8 ?_
  refine V.iload_n d_Mo_jumps_10 rfl 1 rfl ?_
  refine V.imul d_Mo_jumps_11 ?_
  refine V.aload_n d_Mo_jumps_12 rfl 0 rfl ?_
  refine V.getI ok_Mo fl_Mo_235 (by decide) (by decide) ly_65 rfl d_Mo_jumps_13 ?_
  refine V.iadd d_Mo_jumps_16 ?_
  obtain ⟨gq, h⟩ := grd_e h
  obtain ⟨σ17, e_σ17, h⟩ := letv_e h
  refine V.wa (by decide) ly_74 (inb_e gq) rfl d_Mo_jumps_17 e_σ17 ?_
  refine V.aload_n d_Mo_jumps_18 rfl 0 rfl ?_
  refine V.aload_n d_Mo_jumps_19 rfl 0 rfl ?_
  refine V.getI ok_Mo fl_Mo_242 (by decide) (by decide) ly_65 rfl d_Mo_jumps_20 ?_
  refine V.iconst (v := 1) d_Mo_jumps_23 (by decide) ?_
  refine V.iadd d_Mo_jumps_24 ?_
  obtain ⟨σ25, e_σ25, h⟩ := letv_e h
  refine V.putI ok_Mo fl_Mo_242 (by decide) (by decide) ly_65 rfl rfl rfl rfl d_Mo_jumps_25 (V.mem e_σ25 ?_)
  refine V.aload_n d_Mo_jumps_28 rfl 0 rfl ?_
  refine V.iload_n d_Mo_jumps_29 rfl 1 rfl ?_
  refine V.iconst (v := 0) d_Mo_jumps_30 (by decide) ?_
  obtain ⟨σ31, h1, h⟩ := bnd1_e h
  refine V.vN (as := [.int a1, .int 0]) (st := []) (c_Mo_notes Z h1) k_Mo_notes lk_Mo_248 (by decide) rfl (by decide) ly_65 ok_Mo.1 rfl (Nat.le_of_ble_eq_true rfl) d_Mo_jumps_31 ?_
  refine V.aload_n d_Mo_jumps_34 rfl 0 rfl ?_
  refine V.aload_n d_Mo_jumps_35 rfl 0 rfl ?_
  refine V.getI ok_Mo fl_Mo_212 (by decide) (by decide) ly_65 rfl d_Mo_jumps_36 ?_
  refine V.iconst (v := 1) d_Mo_jumps_39 (by decide) ?_
  refine V.iadd d_Mo_jumps_40 ?_
  obtain ⟨σ41, e_σ41, h⟩ := letv_e h
  refine V.putI ok_Mo fl_Mo_212 (by decide) (by decide) ly_65 rfl rfl rfl rfl d_Mo_jumps_41 (V.mem e_σ41 ?_)
  cases h
  exact V.vret rfl d_Mo_jumps_44 ⟨rfl, rfl⟩
abbrev m_Mo_readsCondition : MI := (⟨"ShadeTownModel", "readsCondition", "()Z"⟩, prog_13_method_43_code, 1, (Option.some Jvm.ClassFile.FieldType.boolean))
theorem d_Mo_readsCondition_0 : decode prog_13_method_43_code 0 = .ok (.aload_n 0, 1) := by decide +kernel
theorem d_Mo_readsCondition_1 : decode prog_13_method_43_code 1 = .ok (.invokevirtual 218, 3) := by decide +kernel
theorem d_Mo_readsCondition_4 : decode prog_13_method_43_code 4 = .ok (.bipush 40, 2) := by decide +kernel
theorem d_Mo_readsCondition_19 : decode prog_13_method_43_code 19 = .ok (.aload_n 0, 1) := by decide +kernel
theorem d_Mo_readsCondition_20 : decode prog_13_method_43_code 20 = .ok (.iconst 0, 1) := by decide +kernel
theorem d_Mo_readsCondition_21 : decode prog_13_method_43_code 21 = .ok (.putfield 239, 3) := by decide +kernel
theorem d_Mo_readsCondition_24 : decode prog_13_method_43_code 24 = .ok (.aload_n 0, 1) := by decide +kernel
theorem d_Mo_readsCondition_25 : decode prog_13_method_43_code 25 = .ok (.iconst 0, 1) := by decide +kernel
theorem d_Mo_readsCondition_26 : decode prog_13_method_43_code 26 = .ok (.putfield 242, 3) := by decide +kernel
theorem d_Mo_readsCondition_29 : decode prog_13_method_43_code 29 = .ok (.aload_n 0, 1) := by decide +kernel
theorem d_Mo_readsCondition_30 : decode prog_13_method_43_code 30 = .ok (.bipush 13, 2) := by decide +kernel
theorem d_Mo_readsCondition_32 : decode prog_13_method_43_code 32 = .ok (.invokevirtual 252, 3) := by decide +kernel
theorem d_Mo_readsCondition_40 : decode prog_13_method_43_code 40 = .ok (.aload_n 0, 1) := by decide +kernel
theorem d_Mo_readsCondition_41 : decode prog_13_method_43_code 41 = .ok (.invokevirtual 218, 3) := by decide +kernel
theorem d_Mo_readsCondition_44 : decode prog_13_method_43_code 44 = .ok (.bipush 33, 2) := by decide +kernel
theorem d_Mo_readsCondition_49 : decode prog_13_method_43_code 49 = .ok (.aload_n 0, 1) := by decide +kernel
theorem d_Mo_readsCondition_50 : decode prog_13_method_43_code 50 = .ok (.invokevirtual 218, 3) := by decide +kernel
theorem d_Mo_readsCondition_53 : decode prog_13_method_43_code 53 = .ok (.bipush 40, 2) := by decide +kernel
theorem d_Mo_readsCondition_83 : decode prog_13_method_43_code 83 = .ok (.aload_n 0, 1) := by decide +kernel
theorem d_Mo_readsCondition_84 : decode prog_13_method_43_code 84 = .ok (.invokevirtual 280, 3) := by decide +kernel
theorem k_Mo_readsCompared : MOk m_Mo_readsCompared 0 ∧ IOk m_Mo_readsCompared := ⟨⟨atG 1700 (by decide +kernel) rfl, atG 122 (by decide +kernel) rfl, ⟨by decide, by decide⟩, by decide +kernel, by decide⟩, atG 1699 (by decide +kernel) rfl, atG 61 (by decide +kernel) rfl⟩
theorem lk_Mo_280 : Cond.methodLink "ShadeTownModel" 280 ⟨"ShadeTownModel", "readsCompared", "()Z"⟩ ∈ tblG := atG 1697 (by decide +kernel) rfl
theorem d_Mo_readsCondition_87 : decode prog_13_method_43_code 87 = .ok (.ifCond .ne 5, 3) := by decide +kernel
theorem d_Mo_readsCondition_55 : decode prog_13_method_43_code 55 = .ok (.if_icmp .ne 28, 3) := by decide +kernel
theorem d_Mo_readsCondition_46 : decode prog_13_method_43_code 46 = .ok (.if_icmp .eq 12, 3) := by decide +kernel
theorem d_Mo_readsCondition_58 : decode prog_13_method_43_code 58 = .ok (.aload_n 0, 1) := by decide +kernel
theorem d_Mo_readsCondition_59 : decode prog_13_method_43_code 59 = .ok (.aload_n 0, 1) := by decide +kernel
theorem d_Mo_readsCondition_60 : decode prog_13_method_43_code 60 = .ok (.invokevirtual 218, 3) := by decide +kernel
theorem d_Mo_readsCondition_63 : decode prog_13_method_43_code 63 = .ok (.bipush 33, 2) := by decide +kernel
theorem d_Mo_readsCondition_73 : decode prog_13_method_43_code 73 = .ok (.bipush 13, 2) := by decide +kernel
theorem d_Mo_readsCondition_68 : decode prog_13_method_43_code 68 = .ok (.bipush 10, 2) := by decide +kernel
theorem d_Mo_readsCondition_70 : decode prog_13_method_43_code 70 = .ok (.goto 5, 3) := by decide +kernel
theorem d_Mo_readsCondition_65 : decode prog_13_method_43_code 65 = .ok (.if_icmp .ne 8, 3) := by decide +kernel
theorem d_Mo_readsCondition_75 : decode prog_13_method_43_code 75 = .ok (.invokevirtual 252, 3) := by decide +kernel
theorem d_Mo_readsCondition_81 : decode prog_13_method_43_code 81 = .ok (.iconst 0, 1) := by decide +kernel
theorem d_Mo_readsCondition_82 : decode prog_13_method_43_code 82 = .ok (.ireturn, 1) := by decide +kernel
theorem d_Mo_readsCondition_78 : decode prog_13_method_43_code 78 = .ok (.ifCond .ne (-38), 3) := by decide +kernel
theorem d_Mo_readsCondition_92 : decode prog_13_method_43_code 92 = .ok (.aload_n 0, 1) := by decide +kernel
theorem d_Mo_readsCondition_93 : decode prog_13_method_43_code 93 = .ok (.invokevirtual 218, 3) := by decide +kernel
theorem d_Mo_readsCondition_96 : decode prog_13_method_43_code 96 = .ok (.bipush 41, 2) := by decide +kernel
theorem d_Mo_readsCondition_101 : decode prog_13_method_43_code 101 = .ok (.aload_n 0, 1) := by decide +kernel
theorem d_Mo_readsCondition_102 : decode prog_13_method_43_code 102 = .ok (.iconst 1, 1) := by decide +kernel
theorem d_Mo_readsCondition_103 : decode prog_13_method_43_code 103 = .ok (.invokevirtual 283, 3) := by decide +kernel
theorem k_Mo_lands : MOk m_Mo_lands 1 ∧ IOk m_Mo_lands := ⟨⟨atG 1708 (by decide +kernel) rfl, atG 122 (by decide +kernel) rfl, ⟨by decide, by decide⟩, by decide +kernel, by decide⟩, atG 1707 (by decide +kernel) rfl, atG 63 (by decide +kernel) rfl⟩
theorem lk_Mo_283 : Cond.methodLink "ShadeTownModel" 283 ⟨"ShadeTownModel", "lands", "(Z)V"⟩ ∈ tblG := atG 1705 (by decide +kernel) rfl
theorem d_Mo_readsCondition_106 : decode prog_13_method_43_code 106 = .ok (.aload_n 0, 1) := by decide +kernel
theorem d_Mo_readsCondition_107 : decode prog_13_method_43_code 107 = .ok (.aload_n 0, 1) := by decide +kernel
theorem d_Mo_readsCondition_108 : decode prog_13_method_43_code 108 = .ok (.getfield 242, 3) := by decide +kernel
theorem d_Mo_readsCondition_111 : decode prog_13_method_43_code 111 = .ok (.iconst 1, 1) := by decide +kernel
theorem d_Mo_readsCondition_112 : decode prog_13_method_43_code 112 = .ok (.isub, 1) := by decide +kernel
theorem d_Mo_readsCondition_113 : decode prog_13_method_43_code 113 = .ok (.putfield 242, 3) := by decide +kernel
theorem d_Mo_readsCondition_116 : decode prog_13_method_43_code 116 = .ok (.aload_n 0, 1) := by decide +kernel
theorem d_Mo_readsCondition_117 : decode prog_13_method_43_code 117 = .ok (.aload_n 0, 1) := by decide +kernel
theorem d_Mo_readsCondition_118 : decode prog_13_method_43_code 118 = .ok (.getfield 239, 3) := by decide +kernel
theorem d_Mo_readsCondition_121 : decode prog_13_method_43_code 121 = .ok (.iconst 1, 1) := by decide +kernel
theorem d_Mo_readsCondition_122 : decode prog_13_method_43_code 122 = .ok (.isub, 1) := by decide +kernel
theorem d_Mo_readsCondition_123 : decode prog_13_method_43_code 123 = .ok (.putfield 239, 3) := by decide +kernel
theorem d_Mo_readsCondition_126 : decode prog_13_method_43_code 126 = .ok (.aload_n 0, 1) := by decide +kernel
theorem d_Mo_readsCondition_127 : decode prog_13_method_43_code 127 = .ok (.aload_n 0, 1) := by decide +kernel
theorem d_Mo_readsCondition_128 : decode prog_13_method_43_code 128 = .ok (.getfield 212, 3) := by decide +kernel
theorem d_Mo_readsCondition_131 : decode prog_13_method_43_code 131 = .ok (.iconst 1, 1) := by decide +kernel
theorem d_Mo_readsCondition_132 : decode prog_13_method_43_code 132 = .ok (.iadd, 1) := by decide +kernel
theorem d_Mo_readsCondition_133 : decode prog_13_method_43_code 133 = .ok (.putfield 212, 3) := by decide +kernel
theorem d_Mo_readsCondition_136 : decode prog_13_method_43_code 136 = .ok (.aload_n 0, 1) := by decide +kernel
theorem d_Mo_readsCondition_137 : decode prog_13_method_43_code 137 = .ok (.getfield 242, 3) := by decide +kernel
theorem d_Mo_readsCondition_145 : decode prog_13_method_43_code 145 = .ok (.aload_n 0, 1) := by decide +kernel
theorem d_Mo_readsCondition_146 : decode prog_13_method_43_code 146 = .ok (.invokevirtual 277, 3) := by decide +kernel
theorem d_Mo_readsCondition_149 : decode prog_13_method_43_code 149 = .ok (.goto (-57), 3) := by decide +kernel
theorem d_Mo_readsCondition_143 : decode prog_13_method_43_code 143 = .ok (.iconst 1, 1) := by decide +kernel
theorem d_Mo_readsCondition_144 : decode prog_13_method_43_code 144 = .ok (.ireturn, 1) := by decide +kernel
theorem d_Mo_readsCondition_140 : decode prog_13_method_43_code 140 = .ok (.ifCond .ne 5, 3) := by decide +kernel
theorem d_Mo_readsCondition_98 : decode prog_13_method_43_code 98 = .ok (.if_icmp .ne 54, 3) := by decide +kernel
theorem d_Mo_readsCondition_152 : decode prog_13_method_43_code 152 = .ok (.aload_n 0, 1) := by decide +kernel
theorem d_Mo_readsCondition_153 : decode prog_13_method_43_code 153 = .ok (.invokevirtual 218, 3) := by decide +kernel
theorem d_Mo_readsCondition_156 : decode prog_13_method_43_code 156 = .ok (.bipush 38, 2) := by decide +kernel
theorem d_Mo_readsCondition_161 : decode prog_13_method_43_code 161 = .ok (.aload_n 0, 1) := by decide +kernel
theorem d_Mo_readsCondition_162 : decode prog_13_method_43_code 162 = .ok (.invokevirtual 218, 3) := by decide +kernel
theorem d_Mo_readsCondition_165 : decode prog_13_method_43_code 165 = .ok (.bipush 124, 2) := by decide +kernel
theorem d_Mo_readsCondition_167 : decode prog_13_method_43_code 167 = .ok (.if_icmp .eq 13, 3) := by decide +kernel
theorem d_Mo_readsCondition_158 : decode prog_13_method_43_code 158 = .ok (.if_icmp .eq 22, 3) := by decide +kernel
theorem d_Mo_readsCondition_180 : decode prog_13_method_43_code 180 = .ok (.aload_n 0, 1) := by decide +kernel
theorem d_Mo_readsCondition_181 : decode prog_13_method_43_code 181 = .ok (.aload_n 0, 1) := by decide +kernel
theorem d_Mo_readsCondition_182 : decode prog_13_method_43_code 182 = .ok (.invokevirtual 218, 3) := by decide +kernel
theorem d_Mo_readsCondition_185 : decode prog_13_method_43_code 185 = .ok (.bipush 124, 2) := by decide +kernel
theorem d_Mo_readsCondition_194 : decode prog_13_method_43_code 194 = .ok (.iconst 0, 1) := by decide +kernel
theorem d_Mo_readsCondition_190 : decode prog_13_method_43_code 190 = .ok (.iconst 1, 1) := by decide +kernel
theorem d_Mo_readsCondition_191 : decode prog_13_method_43_code 191 = .ok (.goto 4, 3) := by decide +kernel
theorem d_Mo_readsCondition_187 : decode prog_13_method_43_code 187 = .ok (.if_icmp .ne 7, 3) := by decide +kernel
theorem d_Mo_readsCondition_195 : decode prog_13_method_43_code 195 = .ok (.invokevirtual 283, 3) := by decide +kernel
theorem d_Mo_readsCondition_198 : decode prog_13_method_43_code 198 = .ok (.aload_n 0, 1) := by decide +kernel
theorem d_Mo_readsCondition_199 : decode prog_13_method_43_code 199 = .ok (.aload_n 0, 1) := by decide +kernel
theorem d_Mo_readsCondition_200 : decode prog_13_method_43_code 200 = .ok (.invokevirtual 218, 3) := by decide +kernel
theorem d_Mo_readsCondition_203 : decode prog_13_method_43_code 203 = .ok (.bipush 38, 2) := by decide +kernel
theorem d_Mo_readsCondition_213 : decode prog_13_method_43_code 213 = .ok (.bipush 12, 2) := by decide +kernel
theorem d_Mo_readsCondition_208 : decode prog_13_method_43_code 208 = .ok (.bipush 11, 2) := by decide +kernel
theorem d_Mo_readsCondition_210 : decode prog_13_method_43_code 210 = .ok (.goto 5, 3) := by decide +kernel
theorem d_Mo_readsCondition_205 : decode prog_13_method_43_code 205 = .ok (.if_icmp .ne 8, 3) := by decide +kernel
theorem d_Mo_readsCondition_215 : decode prog_13_method_43_code 215 = .ok (.invokevirtual 286, 3) := by decide +kernel
theorem k_Mo_jumps : MOk m_Mo_jumps 1 ∧ IOk m_Mo_jumps := ⟨⟨atG 1712 (by decide +kernel) rfl, atG 122 (by decide +kernel) rfl, ⟨by decide, by decide⟩, by decide +kernel, by decide⟩, atG 1711 (by decide +kernel) rfl, atG 64 (by decide +kernel) rfl⟩
theorem lk_Mo_286 : Cond.methodLink "ShadeTownModel" 286 ⟨"ShadeTownModel", "jumps", "(I)V"⟩ ∈ tblG := atG 1709 (by decide +kernel) rfl
theorem d_Mo_readsCondition_218 : decode prog_13_method_43_code 218 = .ok (.goto (-178), 3) := by decide +kernel
theorem d_Mo_readsCondition_170 : decode prog_13_method_43_code 170 = .ok (.aload_n 0, 1) := by decide +kernel
theorem d_Mo_readsCondition_171 : decode prog_13_method_43_code 171 = .ok (.iconst 1, 1) := by decide +kernel
theorem d_Mo_readsCondition_172 : decode prog_13_method_43_code 172 = .ok (.aload_n 0, 1) := by decide +kernel
theorem d_Mo_readsCondition_173 : decode prog_13_method_43_code 173 = .ok (.getfield 212, 3) := by decide +kernel
theorem d_Mo_readsCondition_176 : decode prog_13_method_43_code 176 = .ok (.invokevirtual 225, 3) := by decide +kernel
theorem d_Mo_readsCondition_179 : decode prog_13_method_43_code 179 = .ok (.ireturn, 1) := by decide +kernel
theorem d_Mo_readsCondition_90 : decode prog_13_method_43_code 90 = .ok (.iconst 0, 1) := by decide +kernel
theorem d_Mo_readsCondition_91 : decode prog_13_method_43_code 91 = .ok (.ireturn, 1) := by decide +kernel
theorem d_Mo_readsCondition_38 : decode prog_13_method_43_code 38 = .ok (.iconst 0, 1) := by decide +kernel
theorem d_Mo_readsCondition_39 : decode prog_13_method_43_code 39 = .ok (.ireturn, 1) := by decide +kernel
theorem d_Mo_readsCondition_35 : decode prog_13_method_43_code 35 = .ok (.ifCond .ne 5, 3) := by decide +kernel
theorem d_Mo_readsCondition_9 : decode prog_13_method_43_code 9 = .ok (.aload_n 0, 1) := by decide +kernel
theorem d_Mo_readsCondition_10 : decode prog_13_method_43_code 10 = .ok (.iconst 1, 1) := by decide +kernel
theorem d_Mo_readsCondition_11 : decode prog_13_method_43_code 11 = .ok (.aload_n 0, 1) := by decide +kernel
theorem d_Mo_readsCondition_12 : decode prog_13_method_43_code 12 = .ok (.getfield 212, 3) := by decide +kernel
theorem d_Mo_readsCondition_15 : decode prog_13_method_43_code 15 = .ok (.invokevirtual 225, 3) := by decide +kernel
theorem d_Mo_readsCondition_18 : decode prog_13_method_43_code 18 = .ok (.ireturn, 1) := by decide +kernel
theorem d_Mo_readsCondition_6 : decode prog_13_method_43_code 6 = .ok (.if_icmp .eq 13, 3) := by decide +kernel
def B_Mo_readsCondition_l92 (N : Nat) (rec : Mem → Option ((Int32 × Mem) ⊕ (Mem))) (σ : Mem) : Option ((Int32 × Mem) ⊕ (Mem)) :=
  bnd1 (f_Mo_here σ) fun r93 =>
  if r93 = 41 then
    (bnd1 (f_Mo_lands N σ 1) fun σ103 =>
    letv (sI σ103 65 17 ((mI σ103 65 17) - 1)) fun σ113 =>
    letv (sI σ113 65 15 ((mI σ113 65 15) - 1)) fun σ123 =>
    letv (sI σ123 65 12 ((mI σ123 65 12) + 1)) fun σ133 =>
    if (mI σ133 65 17) = 0 then
      (some (.inl (1, σ133)))
    else
      (bnd1 (f_Mo_endsPiece N σ133) fun σ146 =>
      rec σ146))
  else
    (some (.inr σ))
def L_Mo_readsCondition_l92 (N : Nat) : Nat → Mem → Option ((Int32 × Mem) ⊕ (Mem))
  | 0, _ => none
  | k + 1, σ => B_Mo_readsCondition_l92 N (L_Mo_readsCondition_l92 N k) σ
set_option maxHeartbeats 4000000 in
set_option maxRecDepth 20000 in
theorem cL_Mo_readsCondition_l92 (Z : ZX) {Y : YX} {post : Option Value → Mem → Prop} {N : Nat} {Good : (Int32 × Mem) ⊕ (Mem) → Prop} (hE : ∀ (σe : Mem), Good (.inr σe) → V (mkB Z) Y m_Mo_readsCondition 6 (QP (mkB Z) Y nC 0 0 post) 0 0 nC σe 152 [(0, rf Z 65)] []) (hR : ∀ (v : Int32) (σr : Mem), Good (.inl (v, σr)) → post (some (.int v)) σr) : ∀ (k : Nat) (σ : Mem) (res : (Int32 × Mem) ⊕ (Mem)), L_Mo_readsCondition_l92 N k σ = some res → Good res → V (mkB Z) Y m_Mo_readsCondition 6 (QP (mkB Z) Y nC 0 0 post) 0 0 nC σ 92 [(0, rf Z 65)] [] := by
  intro k
  induction k with
  | zero => intro σ res h; cases h
  | succ k ih =>
    intro σ res h hg
    replace h : B_Mo_readsCondition_l92 N (L_Mo_readsCondition_l92 N k) σ = some res := h
    unfold B_Mo_readsCondition_l92 at h
    refine V.aload_n d_Mo_readsCondition_92 rfl 0 rfl ?_
    obtain ⟨r93, h1, h⟩ := bnd1_e h
    refine V.vI (as := []) (st := []) (c_Mo_here Z h1) k_Mo_here lk_Mo_218 (by decide) rfl (by decide) ly_65 ok_Mo.1 rfl (Nat.le_of_ble_eq_true rfl) d_Mo_readsCondition_93 ?_
    refine V.bipush (v := 41) d_Mo_readsCondition_96 (by decide) ?_
    refine V.icmp_ne (tgt := 152) d_Mo_readsCondition_98 (by decide) (fun hc98 => ?_) (fun hc98 => ?_)
    · replace h := ite_f hc98 h
      cases h
      exact V.pick [0] rfl (hE _ hg)
    · replace h := ite_t hc98 h
      refine V.aload_n d_Mo_readsCondition_101 rfl 0 rfl ?_
      refine V.iconst (v := 1) d_Mo_readsCondition_102 (by decide) ?_
      obtain ⟨σ103, h1, h⟩ := bnd1_e h
      refine V.vN (as := [.int 1]) (st := []) (c_Mo_lands Z h1) k_Mo_lands lk_Mo_283 (by decide) rfl (by decide) ly_65 ok_Mo.1 rfl (Nat.le_of_ble_eq_true rfl) d_Mo_readsCondition_103 ?_
      refine V.aload_n d_Mo_readsCondition_106 rfl 0 rfl ?_
      refine V.aload_n d_Mo_readsCondition_107 rfl 0 rfl ?_
      refine V.getI ok_Mo fl_Mo_242 (by decide) (by decide) ly_65 rfl d_Mo_readsCondition_108 ?_
      refine V.iconst (v := 1) d_Mo_readsCondition_111 (by decide) ?_
      refine V.isub d_Mo_readsCondition_112 ?_
      obtain ⟨σ113, e_σ113, h⟩ := letv_e h
      refine V.putI ok_Mo fl_Mo_242 (by decide) (by decide) ly_65 rfl rfl rfl rfl d_Mo_readsCondition_113 (V.mem e_σ113 ?_)
      refine V.aload_n d_Mo_readsCondition_116 rfl 0 rfl ?_
      refine V.aload_n d_Mo_readsCondition_117 rfl 0 rfl ?_
      refine V.getI ok_Mo fl_Mo_239 (by decide) (by decide) ly_65 rfl d_Mo_readsCondition_118 ?_
      refine V.iconst (v := 1) d_Mo_readsCondition_121 (by decide) ?_
      refine V.isub d_Mo_readsCondition_122 ?_
      obtain ⟨σ123, e_σ123, h⟩ := letv_e h
      refine V.putI ok_Mo fl_Mo_239 (by decide) (by decide) ly_65 rfl rfl rfl rfl d_Mo_readsCondition_123 (V.mem e_σ123 ?_)
      refine V.aload_n d_Mo_readsCondition_126 rfl 0 rfl ?_
      refine V.aload_n d_Mo_readsCondition_127 rfl 0 rfl ?_
      refine V.getI ok_Mo fl_Mo_212 (by decide) (by decide) ly_65 rfl d_Mo_readsCondition_128 ?_
      refine V.iconst (v := 1) d_Mo_readsCondition_131 (by decide) ?_
      refine V.iadd d_Mo_readsCondition_132 ?_
      obtain ⟨σ133, e_σ133, h⟩ := letv_e h
      refine V.putI ok_Mo fl_Mo_212 (by decide) (by decide) ly_65 rfl rfl rfl rfl d_Mo_readsCondition_133 (V.mem e_σ133 ?_)
      refine V.aload_n d_Mo_readsCondition_136 rfl 0 rfl ?_
      refine V.getI ok_Mo fl_Mo_242 (by decide) (by decide) ly_65 rfl d_Mo_readsCondition_137 ?_
      refine V.if_ne (tgt := 145) d_Mo_readsCondition_140 (by decide) (fun hc140 => ?_) (fun hc140 => ?_)
      · replace h := ite_f hc140 h
        refine V.aload_n d_Mo_readsCondition_145 rfl 0 rfl ?_
        obtain ⟨σ146, h1, h⟩ := bnd1_e h
        refine V.vN (as := []) (st := []) (c_Mo_endsPiece Z h1) k_Mo_endsPiece lk_Mo_277 (by decide) rfl (by decide) ly_65 ok_Mo.1 rfl (Nat.le_of_ble_eq_true rfl) d_Mo_readsCondition_146 ?_
        refine V.goto (tgt := 92) d_Mo_readsCondition_149 (by decide) ?_
        exact V.pick [0] rfl (ih _ _ h hg)
      · replace h := ite_t hc140 h
        refine V.iconst (v := 1) d_Mo_readsCondition_143 (by decide) ?_
        cases h
        exact V.zret rfl rfl d_Mo_readsCondition_144 (hR _ _ hg)
def B_Mo_readsCondition_l40 (N : Nat) (rec : Mem → Option (Int32 × Mem)) (σ : Mem) : Option (Int32 × Mem) :=
  bnd1 (f_Mo_here σ) fun r41 =>
  bnd1 ((
    if r41 = 33 then
      (some (0, σ))
    else
      (bnd1 (f_Mo_here σ) fun r50 =>
      if r50 = 40 then
        (some (0, σ))
      else
        (bnd2 (f_Mo_readsCompared N σ) fun r84 σ84 =>
        if r84 = 0 then
          (some (2, σ84))
        else
          (some (1, σ84))))) : Option (Nat × Mem)) fun s46b =>
  q2 s46b fun t46b σ46b_ =>
  if t46b = 0 then
    (bnd1 (f_Mo_here σ46b_) fun r60 =>
    bnd1 ((
      if r60 = 33 then
        (some 10)
      else
        (some 13)) : Option (Int32)) fun y65_s1 =>
    bnd2 (f_Mo_opens σ46b_ y65_s1) fun r75 σ75 =>
    if r75 = 0 then
      (some (0, σ75))
    else
      (rec σ75))
  else
  if t46b = 1 then
    (bnd1 (L_Mo_readsCondition_l92 N N σ46b_) fun x92_ =>
    sm x92_ (fun r92_ => some r92_) fun σ92_ =>
    bnd1 (f_Mo_here σ92_) fun r153 =>
    bnd1 ((
      if r153 = 38 then
        (some 0)
      else
        (bnd1 (f_Mo_here σ92_) fun r162 =>
        if r162 = 124 then
          (some 0)
        else
          (some 1))) : Option (Nat)) fun t158b =>
    if t158b = 0 then
      (bnd1 (f_Mo_here σ92_) fun r182 =>
      bnd1 ((
        if r182 = 124 then
          (some 1)
        else
          (some 0)) : Option (Int32)) fun y187_s1 =>
      bnd1 (f_Mo_lands N σ92_ y187_s1) fun σ195 =>
      bnd1 (f_Mo_here σ195) fun r200 =>
      bnd1 ((
        if r200 = 38 then
          (some 11)
        else
          (some 12)) : Option (Int32)) fun y205_s1 =>
      bnd1 (f_Mo_jumps σ195 y205_s1) fun σ215 =>
      rec σ215)
    else
    (bnd2 (f_Mo_wrongAt σ92_ 1 (mI σ92_ 65 12)) fun r176 σ176 =>
    grd (decide (r176 &&& 1 = r176)) (some (r176, σ176))))
  else
  (some (0, σ46b_))
def L_Mo_readsCondition_l40 (N : Nat) : Nat → Mem → Option (Int32 × Mem)
  | 0, _ => none
  | k + 1, σ => B_Mo_readsCondition_l40 N (L_Mo_readsCondition_l40 N k) σ
set_option maxHeartbeats 4000000 in
set_option maxRecDepth 20000 in
theorem cL_Mo_readsCondition_l40 (Z : ZX) {Y : YX} {post : Option Value → Mem → Prop} {N : Nat} {Good : Int32 × Mem → Prop} (hR : ∀ (v : Int32) (σr : Mem), Good (v, σr) → post (some (.int v)) σr) : ∀ (k : Nat) (σ : Mem) (res : Int32 × Mem), L_Mo_readsCondition_l40 N k σ = some res → Good res → V (mkB Z) Y m_Mo_readsCondition 6 (QP (mkB Z) Y nC 0 0 post) 0 0 nC σ 40 [(0, rf Z 65)] [] := by
  intro k
  induction k with
  | zero => intro σ res h; cases h
  | succ k ih =>
    intro σ res h hg
    replace h : B_Mo_readsCondition_l40 N (L_Mo_readsCondition_l40 N k) σ = some res := h
    unfold B_Mo_readsCondition_l40 at h
    refine V.aload_n d_Mo_readsCondition_40 rfl 0 rfl ?_
    obtain ⟨r41, h1, h⟩ := bnd1_e h
    refine V.vI (as := []) (st := []) (c_Mo_here Z h1) k_Mo_here lk_Mo_218 (by decide) rfl (by decide) ly_65 ok_Mo.1 rfl (Nat.le_of_ble_eq_true rfl) d_Mo_readsCondition_41 ?_
    refine V.bipush (v := 33) d_Mo_readsCondition_44 (by decide) ?_
    obtain ⟨s46b, h1, h⟩ := bnd1_e h
    have J46b_58 : ∀ (σ46b_ : Mem), s46b = (0, σ46b_) → V (mkB Z) Y m_Mo_readsCondition 6 (QP (mkB Z) Y nC 0 0 post) 0 0 nC σ46b_ 58 [(0, rf Z 65)] [] := by
      intro σ46b_ he
      rw [he] at h
      replace h := q2_e h
      replace h := ite_t rfl h
      refine V.aload_n d_Mo_readsCondition_58 rfl 0 rfl ?_
      refine V.aload_n d_Mo_readsCondition_59 rfl 0 rfl ?_
      obtain ⟨r60, h1, h⟩ := bnd1_e h
      refine V.vI (as := []) (st := [rf Z 65]) (c_Mo_here Z h1) k_Mo_here lk_Mo_218 (by decide) rfl (by decide) ly_65 ok_Mo.1 rfl (Nat.le_of_ble_eq_true rfl) d_Mo_readsCondition_60 ?_
      refine V.bipush (v := 33) d_Mo_readsCondition_63 (by decide) ?_
      obtain ⟨s65, h1, h⟩ := bnd1_e h
      have J65_75 : ∀ (y65_s1 : Int32), s65 = y65_s1 → V (mkB Z) Y m_Mo_readsCondition 6 (QP (mkB Z) Y nC 0 0 post) 0 0 nC σ46b_ 75 [(0, rf Z 65)] [.int y65_s1, rf Z 65] := by
        intro y65_s1 he
        rw [he] at h
        obtain ⟨r75, σ75, h1, h⟩ := bnd2_e h
        refine V.vI (as := [.int y65_s1]) (st := []) (c_Mo_opens Z h1) k_Mo_opens lk_Mo_252 (by decide) rfl (by decide) ly_65 ok_Mo.1 rfl (Nat.le_of_ble_eq_true rfl) d_Mo_readsCondition_75 ?_
        refine V.if_ne (tgt := 40) d_Mo_readsCondition_78 (by decide) (fun hc78 => ?_) (fun hc78 => ?_)
        · replace h := ite_f hc78 h
          exact V.pick [0] rfl (ih _ _ h hg)
        · replace h := ite_t hc78 h
          refine V.iconst (v := 0) d_Mo_readsCondition_81 (by decide) ?_
          cases h
          exact V.zret rfl rfl d_Mo_readsCondition_82 (hR _ _ hg)
      replace h := h1
      refine V.icmp_ne (tgt := 73) d_Mo_readsCondition_65 (by decide) (fun hc65 => ?_) (fun hc65 => ?_)
      · replace h := ite_f hc65 h
        refine V.bipush (v := 13) d_Mo_readsCondition_73 (by decide) ?_
        exact V.pick [0] rfl (J65_75 _ (Option.some.inj h).symm)
      · replace h := ite_t hc65 h
        refine V.bipush (v := 10) d_Mo_readsCondition_68 (by decide) ?_
        refine V.goto (tgt := 75) d_Mo_readsCondition_70 (by decide) ?_
        exact V.pick [0] rfl (J65_75 _ (Option.some.inj h).symm)
    have J46b_92 : ∀ (σ46b_ : Mem), s46b = (1, σ46b_) → V (mkB Z) Y m_Mo_readsCondition 6 (QP (mkB Z) Y nC 0 0 post) 0 0 nC σ46b_ 92 [(0, rf Z 65)] [] := by
      intro σ46b_ he
      rw [he] at h
      replace h := q2_e h
      replace h := ite_f (by decide) h
      replace h := ite_t rfl h
      obtain ⟨x92_, h1, h⟩ := bnd1_e h
      refine V.pick [0] rfl (cL_Mo_readsCondition_l92 Z (Good := fun z => x92_ = z) (fun σ92_ he => ?_) (fun r92v r92m he => ?_) N  _ _ h1 rfl)
      · rw [he] at h
        replace h := sm_r h
        refine V.aload_n d_Mo_readsCondition_152 rfl 0 rfl ?_
        obtain ⟨r153, h1, h⟩ := bnd1_e h
        refine V.vI (as := []) (st := []) (c_Mo_here Z h1) k_Mo_here lk_Mo_218 (by decide) rfl (by decide) ly_65 ok_Mo.1 rfl (Nat.le_of_ble_eq_true rfl) d_Mo_readsCondition_153 ?_
        refine V.bipush (v := 38) d_Mo_readsCondition_156 (by decide) ?_
        obtain ⟨s158b, h1, h⟩ := bnd1_e h
        have J158b_180 : s158b = 0 → V (mkB Z) Y m_Mo_readsCondition 6 (QP (mkB Z) Y nC 0 0 post) 0 0 nC σ92_ 180 [(0, rf Z 65)] [] := by
          intro he
          rw [he] at h
          replace h := ite_t rfl h
          refine V.aload_n d_Mo_readsCondition_180 rfl 0 rfl ?_
          refine V.aload_n d_Mo_readsCondition_181 rfl 0 rfl ?_
          obtain ⟨r182, h1, h⟩ := bnd1_e h
          refine V.vI (as := []) (st := [rf Z 65]) (c_Mo_here Z h1) k_Mo_here lk_Mo_218 (by decide) rfl (by decide) ly_65 ok_Mo.1 rfl (Nat.le_of_ble_eq_true rfl) d_Mo_readsCondition_182 ?_
          refine V.bipush (v := 124) d_Mo_readsCondition_185 (by decide) ?_
          obtain ⟨s187, h1, h⟩ := bnd1_e h
          have J187_195 : ∀ (y187_s1 : Int32), s187 = y187_s1 → V (mkB Z) Y m_Mo_readsCondition 6 (QP (mkB Z) Y nC 0 0 post) 0 0 nC σ92_ 195 [(0, rf Z 65)] [.int y187_s1, rf Z 65] := by
            intro y187_s1 he
            rw [he] at h
            obtain ⟨σ195, h1, h⟩ := bnd1_e h
            refine V.vN (as := [.int y187_s1]) (st := []) (c_Mo_lands Z h1) k_Mo_lands lk_Mo_283 (by decide) rfl (by decide) ly_65 ok_Mo.1 rfl (Nat.le_of_ble_eq_true rfl) d_Mo_readsCondition_195 ?_
            refine V.aload_n d_Mo_readsCondition_198 rfl 0 rfl ?_
            refine V.aload_n d_Mo_readsCondition_199 rfl 0 rfl ?_
            obtain ⟨r200, h1, h⟩ := bnd1_e h
            refine V.vI (as := []) (st := [rf Z 65]) (c_Mo_here Z h1) k_Mo_here lk_Mo_218 (by decide) rfl (by decide) ly_65 ok_Mo.1 rfl (Nat.le_of_ble_eq_true rfl) d_Mo_readsCondition_200 ?_
            refine V.bipush (v := 38) d_Mo_readsCondition_203 (by decide) ?_
            obtain ⟨s205, h1, h⟩ := bnd1_e h
            have J205_215 : ∀ (y205_s1 : Int32), s205 = y205_s1 → V (mkB Z) Y m_Mo_readsCondition 6 (QP (mkB Z) Y nC 0 0 post) 0 0 nC σ195 215 [(0, rf Z 65)] [.int y205_s1, rf Z 65] := by
              intro y205_s1 he
              rw [he] at h
              obtain ⟨σ215, h1, h⟩ := bnd1_e h
              refine V.vN (as := [.int y205_s1]) (st := []) (c_Mo_jumps Z h1) k_Mo_jumps lk_Mo_286 (by decide) rfl (by decide) ly_65 ok_Mo.1 rfl (Nat.le_of_ble_eq_true rfl) d_Mo_readsCondition_215 ?_
              refine V.goto (tgt := 40) d_Mo_readsCondition_218 (by decide) ?_
              exact V.pick [0] rfl (ih _ _ h hg)
            replace h := h1
            refine V.icmp_ne (tgt := 213) d_Mo_readsCondition_205 (by decide) (fun hc205 => ?_) (fun hc205 => ?_)
            · replace h := ite_f hc205 h
              refine V.bipush (v := 12) d_Mo_readsCondition_213 (by decide) ?_
              exact V.pick [0] rfl (J205_215 _ (Option.some.inj h).symm)
            · replace h := ite_t hc205 h
              refine V.bipush (v := 11) d_Mo_readsCondition_208 (by decide) ?_
              refine V.goto (tgt := 215) d_Mo_readsCondition_210 (by decide) ?_
              exact V.pick [0] rfl (J205_215 _ (Option.some.inj h).symm)
          replace h := h1
          refine V.icmp_ne (tgt := 194) d_Mo_readsCondition_187 (by decide) (fun hc187 => ?_) (fun hc187 => ?_)
          · replace h := ite_f hc187 h
            refine V.iconst (v := 0) d_Mo_readsCondition_194 (by decide) ?_
            exact V.pick [0] rfl (J187_195 _ (Option.some.inj h).symm)
          · replace h := ite_t hc187 h
            refine V.iconst (v := 1) d_Mo_readsCondition_190 (by decide) ?_
            refine V.goto (tgt := 195) d_Mo_readsCondition_191 (by decide) ?_
            exact V.pick [0] rfl (J187_195 _ (Option.some.inj h).symm)
        have J158b_170 : s158b = 1 → V (mkB Z) Y m_Mo_readsCondition 6 (QP (mkB Z) Y nC 0 0 post) 0 0 nC σ92_ 170 [(0, rf Z 65)] [] := by
          intro he
          rw [he] at h
          replace h := ite_f (by decide) h
          refine V.aload_n d_Mo_readsCondition_170 rfl 0 rfl ?_
          refine V.iconst (v := 1) d_Mo_readsCondition_171 (by decide) ?_
          refine V.aload_n d_Mo_readsCondition_172 rfl 0 rfl ?_
          refine V.getI ok_Mo fl_Mo_212 (by decide) (by decide) ly_65 rfl d_Mo_readsCondition_173 ?_
          obtain ⟨r176, σ176, h1, h⟩ := bnd2_e h
          refine V.vI (as := [.int 1, .int (mI σ92_ 65 12)]) (st := []) (c_Mo_wrongAt Z h1) k_Mo_wrongAt lk_Mo_225 (by decide) rfl (by decide) ly_65 ok_Mo.1 rfl (Nat.le_of_ble_eq_true rfl) d_Mo_readsCondition_176 ?_
          obtain ⟨hz, h⟩ := grd_e h
          have hz := congrArg Value.int (of_decide_eq_true hz)
          cases h
          exact V.zret rfl hz d_Mo_readsCondition_179 (hR _ _ hg)
        replace h := h1
        refine V.icmp_eq (tgt := 180) d_Mo_readsCondition_158 (by decide) (fun hc158 => ?_) (fun hc158 => ?_)
        · replace h := ite_t hc158 h
          exact V.pick [0] rfl (J158b_180 (Option.some.inj h).symm)
        · replace h := ite_f hc158 h
          refine V.aload_n d_Mo_readsCondition_161 rfl 0 rfl ?_
          obtain ⟨r162, h1, h⟩ := bnd1_e h
          refine V.vI (as := []) (st := []) (c_Mo_here Z h1) k_Mo_here lk_Mo_218 (by decide) rfl (by decide) ly_65 ok_Mo.1 rfl (Nat.le_of_ble_eq_true rfl) d_Mo_readsCondition_162 ?_
          refine V.bipush (v := 124) d_Mo_readsCondition_165 (by decide) ?_
          refine V.icmp_eq (tgt := 180) d_Mo_readsCondition_167 (by decide) (fun hc167 => ?_) (fun hc167 => ?_)
          · replace h := ite_t hc167 h
            exact V.pick [0] rfl (J158b_180 (Option.some.inj h).symm)
          · replace h := ite_f hc167 h
            exact V.pick [0] rfl (J158b_170 (Option.some.inj h).symm)
      · rw [he] at h
        replace h := sm_l h
        cases h
        exact hR _ _ hg
    have J46b_90 : ∀ (σ46b_ : Mem), s46b = (2, σ46b_) → V (mkB Z) Y m_Mo_readsCondition 6 (QP (mkB Z) Y nC 0 0 post) 0 0 nC σ46b_ 90 [] [] := by
      intro σ46b_ he
      rw [he] at h
      replace h := q2_e h
      replace h := ite_f (by decide) h
      replace h := ite_f (by decide) h
      refine V.iconst (v := 0) d_Mo_readsCondition_90 (by decide) ?_
      cases h
      exact V.zret rfl rfl d_Mo_readsCondition_91 (hR _ _ hg)
    replace h := h1
    refine V.icmp_eq (tgt := 58) d_Mo_readsCondition_46 (by decide) (fun hc46 => ?_) (fun hc46 => ?_)
    · replace h := ite_t hc46 h
      exact V.pick [0] rfl (J46b_58 _ (Option.some.inj h).symm)
    · replace h := ite_f hc46 h
      refine V.aload_n d_Mo_readsCondition_49 rfl 0 rfl ?_
      obtain ⟨r50, h1, h⟩ := bnd1_e h
      refine V.vI (as := []) (st := []) (c_Mo_here Z h1) k_Mo_here lk_Mo_218 (by decide) rfl (by decide) ly_65 ok_Mo.1 rfl (Nat.le_of_ble_eq_true rfl) d_Mo_readsCondition_50 ?_
      refine V.bipush (v := 40) d_Mo_readsCondition_53 (by decide) ?_
      refine V.icmp_ne (tgt := 83) d_Mo_readsCondition_55 (by decide) (fun hc55 => ?_) (fun hc55 => ?_)
      · replace h := ite_f hc55 h
        refine V.aload_n d_Mo_readsCondition_83 rfl 0 rfl ?_
        obtain ⟨r84, σ84, h1, h⟩ := bnd2_e h
        refine V.vI (as := []) (st := []) (c_Mo_readsCompared Z h1) k_Mo_readsCompared lk_Mo_280 (by decide) rfl (by decide) ly_65 ok_Mo.1 rfl (Nat.le_of_ble_eq_true rfl) d_Mo_readsCondition_84 ?_
        refine V.if_ne (tgt := 92) d_Mo_readsCondition_87 (by decide) (fun hc87 => ?_) (fun hc87 => ?_)
        · replace h := ite_f hc87 h
          exact V.pick [0] rfl (J46b_92 _ (Option.some.inj h).symm)
        · replace h := ite_t hc87 h
          exact V.pick [] rfl (J46b_90 _ (Option.some.inj h).symm)
      · replace h := ite_t hc55 h
        exact V.pick [0] rfl (J46b_58 _ (Option.some.inj h).symm)
def f_Mo_readsCondition (N : Nat) (σ : Mem) : Option (Int32 × Mem) :=
  bnd1 (f_Mo_here σ) fun r1 =>
  if r1 = 40 then
    (letv (sI σ 65 15 0) fun σ21 =>
    letv (sI σ21 65 17 0) fun σ26 =>
    bnd2 (f_Mo_opens σ26 13) fun r32 σ32 =>
    if r32 = 0 then
      (some (0, σ32))
    else
      (L_Mo_readsCondition_l40 N N σ32))
  else
    (bnd2 (f_Mo_wrongAt σ 1 (mI σ 65 12)) fun r15 σ15 =>
    grd (decide (r15 &&& 1 = r15)) (some (r15, σ15)))
set_option maxHeartbeats 4000000 in
set_option maxRecDepth 20000 in
theorem c_Mo_readsCondition (Z : ZX) {N : Nat} {σ : Mem} {r : Int32} {σ' : Mem} (h : f_Mo_readsCondition N σ = some (r, σ')) : CI Z 6 m_Mo_readsCondition [rf Z 65] σ r σ' := by
  refine Ct.of (by decide +kernel) (Nat.le_of_ble_eq_true rfl) (fun Y => ?_)
  show V (mkB Z) Y m_Mo_readsCondition 6 (QP (mkB Z) Y nC 0 0 (fun v t => v = some (.int r) ∧ t = σ')) 0 0 nC σ 0 [(0, rf Z 65)] []
  unfold f_Mo_readsCondition at h
  refine V.aload_n d_Mo_readsCondition_0 rfl 0 rfl ?_
  obtain ⟨r1, h1, h⟩ := bnd1_e h
  refine V.vI (as := []) (st := []) (c_Mo_here Z h1) k_Mo_here lk_Mo_218 (by decide) rfl (by decide) ly_65 ok_Mo.1 rfl (Nat.le_of_ble_eq_true rfl) d_Mo_readsCondition_1 ?_
  refine V.bipush (v := 40) d_Mo_readsCondition_4 (by decide) ?_
  refine V.icmp_eq (tgt := 19) d_Mo_readsCondition_6 (by decide) (fun hc6 => ?_) (fun hc6 => ?_)
  · replace h := ite_t hc6 h
    refine V.aload_n d_Mo_readsCondition_19 rfl 0 rfl ?_
    refine V.iconst (v := 0) d_Mo_readsCondition_20 (by decide) ?_
    obtain ⟨σ21, e_σ21, h⟩ := letv_e h
    refine V.putI ok_Mo fl_Mo_239 (by decide) (by decide) ly_65 rfl rfl rfl rfl d_Mo_readsCondition_21 (V.mem e_σ21 ?_)
    refine V.aload_n d_Mo_readsCondition_24 rfl 0 rfl ?_
    refine V.iconst (v := 0) d_Mo_readsCondition_25 (by decide) ?_
    obtain ⟨σ26, e_σ26, h⟩ := letv_e h
    refine V.putI ok_Mo fl_Mo_242 (by decide) (by decide) ly_65 rfl rfl rfl rfl d_Mo_readsCondition_26 (V.mem e_σ26 ?_)
    refine V.aload_n d_Mo_readsCondition_29 rfl 0 rfl ?_
    refine V.bipush (v := 13) d_Mo_readsCondition_30 (by decide) ?_
    obtain ⟨r32, σ32, h1, h⟩ := bnd2_e h
    refine V.vI (as := [.int 13]) (st := []) (c_Mo_opens Z h1) k_Mo_opens lk_Mo_252 (by decide) rfl (by decide) ly_65 ok_Mo.1 rfl (Nat.le_of_ble_eq_true rfl) d_Mo_readsCondition_32 ?_
    refine V.if_ne (tgt := 40) d_Mo_readsCondition_35 (by decide) (fun hc35 => ?_) (fun hc35 => ?_)
    · replace h := ite_f hc35 h
      refine V.pick [0] rfl (cL_Mo_readsCondition_l40 Z (Good := fun z => z = _) (fun r40v r40m he => ?_) N  _ _ h rfl)
      · cases he
        exact ⟨rfl, rfl⟩
    · replace h := ite_t hc35 h
      refine V.iconst (v := 0) d_Mo_readsCondition_38 (by decide) ?_
      cases h
      exact V.zret rfl rfl d_Mo_readsCondition_39 ⟨rfl, rfl⟩
  · replace h := ite_f hc6 h
    refine V.aload_n d_Mo_readsCondition_9 rfl 0 rfl ?_
    refine V.iconst (v := 1) d_Mo_readsCondition_10 (by decide) ?_
    refine V.aload_n d_Mo_readsCondition_11 rfl 0 rfl ?_
    refine V.getI ok_Mo fl_Mo_212 (by decide) (by decide) ly_65 rfl d_Mo_readsCondition_12 ?_
    obtain ⟨r15, σ15, h1, h⟩ := bnd2_e h
    refine V.vI (as := [.int 1, .int (mI σ 65 12)]) (st := []) (c_Mo_wrongAt Z h1) k_Mo_wrongAt lk_Mo_225 (by decide) rfl (by decide) ly_65 ok_Mo.1 rfl (Nat.le_of_ble_eq_true rfl) d_Mo_readsCondition_15 ?_
    obtain ⟨hz, h⟩ := grd_e h
    have hz := congrArg Value.int (of_decide_eq_true hz)
    cases h
    exact V.zret rfl hz d_Mo_readsCondition_18 ⟨rfl, rfl⟩
