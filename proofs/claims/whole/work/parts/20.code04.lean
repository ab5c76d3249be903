abbrev m_JA_fill_53178 : MI := (⟨"java/util/Arrays", "fill", "([II)V"⟩, prog_21_method_103_code, 4, (Option.none : Option Jvm.ClassFile.FieldType))
theorem d_JA_fill_53178_0 : decode prog_21_method_103_code 0 = .ok (.iconst 0, 1) := by decide +kernel
theorem d_JA_fill_53178_1 : decode prog_21_method_103_code 1 = .ok (.istore_n 2, 1) := by decide +kernel
theorem d_JA_fill_53178_2 : decode prog_21_method_103_code 2 = .ok (.aload_n 0, 1) := by decide +kernel
theorem d_JA_fill_53178_3 : decode prog_21_method_103_code 3 = .ok (.arraylength, 1) := by decide +kernel
theorem d_JA_fill_53178_4 : decode prog_21_method_103_code 4 = .ok (.istore_n 3, 1) := by decide +kernel
theorem d_JA_fill_53178_5 : decode prog_21_method_103_code 5 = .ok (.iload_n 2, 1) := by decide +kernel
theorem d_JA_fill_53178_6 : decode prog_21_method_103_code 6 = .ok (.iload_n 3, 1) := by decide +kernel
theorem d_JA_fill_53178_20 : decode prog_21_method_103_code 20 = .ok (.return_, 1) := by decide +kernel
theorem d_JA_fill_53178_10 : decode prog_21_method_103_code 10 = .ok (.aload_n 0, 1) := by decide +kernel
theorem d_JA_fill_53178_11 : decode prog_21_method_103_code 11 = .ok (.iload_n 2, 1) := by decide +kernel
theorem d_JA_fill_53178_12 : decode prog_21_method_103_code 12 = .ok (.iload_n 1, 1) := by decide +kernel
theorem d_JA_fill_53178_13 : decode prog_21_method_103_code 13 = .ok (.iastore, 1) := by decide +kernel
theorem d_JA_fill_53178_14 : decode prog_21_method_103_code 14 = .ok (.iinc 2 1, 3) := by decide +kernel
theorem d_JA_fill_53178_17 : decode prog_21_method_103_code 17 = .ok (.goto (-12), 3) := by decide +kernel
theorem d_JA_fill_53178_7 : decode prog_21_method_103_code 7 = .ok (.if_icmp .ge 13, 3) := by decide +kernel
def B_JA_fill_53178_l5 (N : Nat) (g0 n0 : Nat) (a1 : Int32) (a3 : Int32) (rec : Int32 → Mem → Option (Mem)) (x2 : Int32) (σ : Mem) : Option (Mem) :=
  if a3 ≤ x2 then
    (some σ)
  else
    (grd (inb x2 n0) <|
    letv (sI σ g0 (x2.toNatClampNeg) a1) fun σ13 =>
    letv (x2 + 1) fun v14 =>
    rec v14 σ13)
def L_JA_fill_53178_l5 (N : Nat) (g0 n0 : Nat) (a1 : Int32) (a3 : Int32) : Nat → Int32 → Mem → Option (Mem)
  | 0, _, _ => none
  | k + 1, x2, σ => B_JA_fill_53178_l5 N g0 n0 a1 a3 (L_JA_fill_53178_l5 N g0 n0 a1 a3 k) x2 σ
set_option maxHeartbeats 4000000 in
set_option maxRecDepth 20000 in
theorem cL_JA_fill_53178_l5 (Z : ZX) {Y : YX} {post : Option Value → Mem → Prop} {N : Nat} {g0 n0 : Nat} {a1 : Int32} {a3 : Int32} (hk0 : g0 < nC) (hy0 : lay1 g0 = .inl (.int, n0)) {Good : Mem → Prop} (hR : ∀ (σr : Mem), Good σr → post none σr) : ∀ (k : Nat) (x2 : Int32) (σ : Mem) (res : Mem), L_JA_fill_53178_l5 N g0 n0 a1 a3 k x2 σ = some res → Good res → V (mkB Z) Y m_JA_fill_53178 0 (QP (mkB Z) Y nC 0 0 post) 0 0 nC σ 5 [(0, rf Z g0), (1, .int a1), (2, .int x2), (3, .int a3)] [] := by
  intro k
  induction k with
  | zero => intro x2 σ res h; cases h
  | succ k ih =>
    intro x2 σ res h hg
    replace h : B_JA_fill_53178_l5 N g0 n0 a1 a3 (L_JA_fill_53178_l5 N g0 n0 a1 a3 k) x2 σ = some res := h
    unfold B_JA_fill_53178_l5 at h
    refine V.iload_n d_JA_fill_53178_5 rfl 2 rfl ?_
    refine V.iload_n d_JA_fill_53178_6 rfl 3 rfl ?_
    refine V.icmp_ge (tgt := 20) d_JA_fill_53178_7 (by decide) (fun hc7 => ?_) (fun hc7 => ?_)
    · replace h := ite_t hc7 h
      cases h
      exact V.vret rfl d_JA_fill_53178_20 (hR _ hg)
    · replace h := ite_f hc7 h
      refine V.aload_n d_JA_fill_53178_10 rfl 0 rfl ?_
      refine V.iload_n d_JA_fill_53178_11 rfl 2 rfl ?_
      refine V.iload_n d_JA_fill_53178_12 rfl 1 rfl ?_
      obtain ⟨gq, h⟩ := grd_e h
      obtain ⟨σ13, e_σ13, h⟩ := letv_e h
      refine V.wa hk0 hy0 (inb_e gq) rfl d_JA_fill_53178_13 e_σ13 ?_
      obtain ⟨v14, e_v14, h⟩ := letv_e h
      refine V.iinc (v := v14) (lv' := [(2, .int v14), (0, rf Z g0), (1, .int a1), (3, .int a3)]) d_JA_fill_53178_14 2 rfl (by rw [e_v14]; rfl) (by decide) rfl ?_
      refine V.goto (tgt := 5) d_JA_fill_53178_17 (by decide) ?_
      exact V.pick [1, 2, 0, 3] rfl (ih _ _ _ h hg)
def f_JA_fill_53178 (N : Nat) (σ : Mem) (g0 : Nat) (n0 : Nat) (a1 : Int32) : Option (Mem) :=
  letv (Int32.ofNat n0) fun v4 =>
  L_JA_fill_53178_l5 N g0 n0 a1 v4 N 0 σ
set_option maxHeartbeats 4000000 in
set_option maxRecDepth 20000 in
theorem c_JA_fill_53178 (Z : ZX) {N : Nat} {σ : Mem} {g0 : Nat} {n0 : Nat} {a1 : Int32} {σ' : Mem} (hk0 : g0 < nC) (hy0 : lay1 g0 = .inl (.int, n0)) (h : f_JA_fill_53178 N σ g0 n0 a1 = some σ') : CN Z 0 m_JA_fill_53178 [rf Z g0, .int a1] σ σ' := by
  refine Ct.of (by decide +kernel) (Nat.le_of_ble_eq_true rfl) (fun Y => ?_)
  show V (mkB Z) Y m_JA_fill_53178 0 (QP (mkB Z) Y nC 0 0 (fun v t => v = none ∧ t = σ')) 0 0 nC σ 0 [(0, rf Z g0), (1, .int a1)] []
  unfold f_JA_fill_53178 at h
  refine V.iconst (v := 0) d_JA_fill_53178_0 (by decide) ?_
  refine V.istore_n (lv' := [(2, .int 0), (0, rf Z g0), (1, .int a1)]) d_JA_fill_53178_1 rfl (by decide) rfl ?_
  refine V.aload_n d_JA_fill_53178_2 rfl 1 rfl ?_
  refine V.al (t := 0) (x := Int32.ofNat n0) hk0 hy0 rfl rfl d_JA_fill_53178_3 ?_
  obtain ⟨v4, e_v4, h⟩ := letv_e h
  refine V.topI e_v4 ?_
  refine V.istore_n (lv' := [(3, .int v4), (2, .int 0), (0, rf Z g0), (1, .int a1)]) d_JA_fill_53178_4 rfl (by decide) rfl ?_
  refine V.pick [2, 3, 1, 0] rfl (cL_JA_fill_53178_l5 Z hk0 hy0 (Good := fun z => z = _) (fun r5m he => ?_) N _ _ _ h rfl)
  · cases he
    exact ⟨rfl, rfl⟩
abbrev m_La_askHour : MI := (⟨"ShadeTown$Law", "askHour", "(II)V"⟩, prog_4_method_11_code, 3, (Option.none : Option Jvm.ClassFile.FieldType))
theorem d_La_askHour_0 : decode prog_4_method_11_code 0 = .ok (.aload_n 0, 1) := by decide +kernel
theorem fl_La_31 : FL "ShadeTown$Law" 31 T_La 6 := atG 166 (by decide +kernel) rfl
theorem d_La_askHour_1 : decode prog_4_method_11_code 1 = .ok (.getfield 31, 3) := by decide +kernel
theorem d_La_askHour_4 : decode prog_4_method_11_code 4 = .ok (.iconst 0, 1) := by decide +kernel
theorem d_La_askHour_5 : decode prog_4_method_11_code 5 = .ok (.invokestatic 47, 3) := by decide +kernel
theorem k_JA_fill_53178 : MOk m_JA_fill_53178 2 ∧ Cond.static m_JA_fill_53178.1 ∈ tblG := ⟨⟨atG 769 (by decide +kernel) rfl, atG 130 (by decide +kernel) rfl, ⟨by decide, by decide⟩, by decide +kernel, by decide⟩, atG 768 (by decide +kernel) rfl⟩
theorem lk_La_47 : Cond.methodLink "ShadeTown$Law" 47 ⟨"java/util/Arrays", "fill", "([II)V"⟩ ∈ tblG := atG 767 (by decide +kernel) rfl
theorem d_La_askHour_8 : decode prog_4_method_11_code 8 = .ok (.aload_n 0, 1) := by decide +kernel
theorem d_La_askHour_9 : decode prog_4_method_11_code 9 = .ok (.getfield 31, 3) := by decide +kernel
theorem d_La_askHour_12 : decode prog_4_method_11_code 12 = .ok (.iconst 0, 1) := by decide +kernel
theorem d_La_askHour_13 : decode prog_4_method_11_code 13 = .ok (.iload_n 1, 1) := by decide +kernel
theorem d_La_askHour_14 : decode prog_4_method_11_code 14 = .ok (.iastore, 1) := by decide +kernel
theorem d_La_askHour_15 : decode prog_4_method_11_code 15 = .ok (.aload_n 0, 1) := by decide +kernel
theorem d_La_askHour_16 : decode prog_4_method_11_code 16 = .ok (.getfield 31, 3) := by decide +kernel
theorem d_La_askHour_19 : decode prog_4_method_11_code 19 = .ok (.iconst 1, 1) := by decide +kernel
theorem d_La_askHour_20 : decode prog_4_method_11_code 20 = .ok (.iload_n 2, 1) := by decide +kernel
theorem d_La_askHour_21 : decode prog_4_method_11_code 21 = .ok (.iastore, 1) := by decide +kernel
theorem d_La_askHour_22 : decode prog_4_method_11_code 22 = .ok (.return_, 1) := by decide +kernel
def f_La_askHour (N : Nat) (σ : Mem) (a1 : Int32) (a2 : Int32) : Option (Mem) :=
  bnd1 (f_JA_fill_53178 N σ 8 9 0) fun σ5 =>
  letv (sI σ5 8 0 a1) fun σ14 =>
  letv (sI σ14 8 1 a2) fun σ21 =>
  some σ21
set_option maxHeartbeats 4000000 in
set_option maxRecDepth 20000 in
theorem c_La_askHour (Z : ZX) {N : Nat} {σ : Mem} {a1 : Int32} {a2 : Int32} {σ' : Mem} (h : f_La_askHour N σ a1 a2 = some σ') : CN Z 1 m_La_askHour [rf Z 3, .int a1, .int a2] σ σ' := by
  refine Ct.of (by decide +kernel) (Nat.le_of_ble_eq_true rfl) (fun Y => ?_)
  show V (mkB Z) Y m_La_askHour 1 (QP (mkB Z) Y nC 0 0 (fun v t => v = none ∧ t = σ')) 0 0 nC σ 0 [(0, rf Z 3), (1, .int a1), (2, .int a2)] []
  unfold f_La_askHour at h
  refine V.aload_n d_La_askHour_0 rfl 0 rfl ?_
  refine V.getR (r := 8) ok_La fl_La_31 (by decide) (by decide) ly_3 rfl d_La_askHour_1 ?_
  refine V.iconst (v := 0) d_La_askHour_4 (by decide) ?_
  obtain ⟨σ5, h1, h⟩ := bnd1_e h
  refine V.sN (as := [rf Z 8, .int 0]) (st := []) (c_JA_fill_53178 Z (by decide) ly_8 h1) k_JA_fill_53178 lk_La_47 (by decide) rfl rfl (Nat.le_of_ble_eq_true rfl) d_La_askHour_5 ?_
  refine V.aload_n d_La_askHour_8 rfl 0 rfl ?_
  refine V.getR (r := 8) ok_La fl_La_31 (by decide) (by decide) ly_3 rfl d_La_askHour_9 ?_
  refine V.iconst (v := 0) d_La_askHour_12 (by decide) ?_
  refine V.iload_n d_La_askHour_13 rfl 1 rfl ?_
  obtain ⟨σ14, e_σ14, h⟩ := letv_e h
  refine V.wa (j := 0) (by decide) ly_8 (inb_e (by decide)) (by decide) d_La_askHour_14 e_σ14 ?_
  refine V.aload_n d_La_askHour_15 rfl 0 rfl ?_
  refine V.getR (r := 8) ok_La fl_La_31 (by decide) (by decide) ly_3 rfl d_La_askHour_16 ?_
  refine V.iconst (v := 1) d_La_askHour_19 (by decide) ?_
  refine V.iload_n d_La_askHour_20 rfl 2 rfl ?_
  obtain ⟨σ21, e_σ21, h⟩ := letv_e h
  refine V.wa (j := 1) (by decide) ly_8 (inb_e (by decide)) (by decide) d_La_askHour_21 e_σ21 ?_
  cases h
  exact V.vret rfl d_La_askHour_22 ⟨rfl, rfl⟩
abbrev m_La_reckon : MI := (⟨"ShadeTown$Law", "reckon", "(III)I"⟩, prog_4_method_18_code, 3, (Option.some Jvm.ClassFile.FieldType.int))
theorem d_La_reckon_0 : decode prog_4_method_18_code 0 = .ok (.iload_n 0, 1) := by decide +kernel
theorem d_La_reckon_92 : decode prog_4_method_18_code 92 = .ok (.iload_n 2, 1) := by decide +kernel
theorem d_La_reckon_100 : decode prog_4_method_18_code 100 = .ok (.iload_n 1, 1) := by decide +kernel
theorem d_La_reckon_101 : decode prog_4_method_18_code 101 = .ok (.iload_n 2, 1) := by decide +kernel
theorem d_La_reckon_102 : decode prog_4_method_18_code 102 = .ok (.irem, 1) := by decide +kernel
theorem d_La_reckon_103 : decode prog_4_method_18_code 103 = .ok (.ireturn, 1) := by decide +kernel
theorem d_La_reckon_96 : decode prog_4_method_18_code 96 = .ok (.iconst 0, 1) := by decide +kernel
theorem d_La_reckon_97 : decode prog_4_method_18_code 97 = .ok (.goto 6, 3) := by decide +kernel
theorem d_La_reckon_93 : decode prog_4_method_18_code 93 = .ok (.ifCond .ne 7, 3) := by decide +kernel
theorem d_La_reckon_76 : decode prog_4_method_18_code 76 = .ok (.iload_n 1, 1) := by decide +kernel
theorem d_La_reckon_77 : decode prog_4_method_18_code 77 = .ok (.iload_n 2, 1) := by decide +kernel
theorem d_La_reckon_78 : decode prog_4_method_18_code 78 = .ok (.imul, 1) := by decide +kernel
theorem d_La_reckon_79 : decode prog_4_method_18_code 79 = .ok (.ireturn, 1) := by decide +kernel
theorem d_La_reckon_68 : decode prog_4_method_18_code 68 = .ok (.iload_n 1, 1) := by decide +kernel
theorem d_La_reckon_69 : decode prog_4_method_18_code 69 = .ok (.iload_n 2, 1) := by decide +kernel
theorem d_La_reckon_70 : decode prog_4_method_18_code 70 = .ok (.iadd, 1) := by decide +kernel
theorem d_La_reckon_71 : decode prog_4_method_18_code 71 = .ok (.ireturn, 1) := by decide +kernel
theorem d_La_reckon_72 : decode prog_4_method_18_code 72 = .ok (.iload_n 1, 1) := by decide +kernel
theorem d_La_reckon_73 : decode prog_4_method_18_code 73 = .ok (.iload_n 2, 1) := by decide +kernel
theorem d_La_reckon_74 : decode prog_4_method_18_code 74 = .ok (.isub, 1) := by decide +kernel
theorem d_La_reckon_75 : decode prog_4_method_18_code 75 = .ok (.ireturn, 1) := by decide +kernel
theorem d_La_reckon_80 : decode prog_4_method_18_code 80 = .ok (.iload_n 2, 1) := by decide +kernel
theorem d_La_reckon_88 : decode prog_4_method_18_code 88 = .ok (.iload_n 1, 1) := by decide +kernel
theorem d_La_reckon_89 : decode prog_4_method_18_code 89 = .ok (.iload_n 2, 1) := by decide +kernel
theorem d_La_reckon_90 : decode prog_4_method_18_code 90 = .ok (.idiv, 1) := by decide +kernel
theorem d_La_reckon_91 : decode prog_4_method_18_code 91 = .ok (.ireturn, 1) := by decide +kernel
theorem d_La_reckon_84 : decode prog_4_method_18_code 84 = .ok (.iconst 0, 1) := by decide +kernel
theorem d_La_reckon_85 : decode prog_4_method_18_code 85 = .ok (.goto 6, 3) := by decide +kernel
theorem d_La_reckon_81 : decode prog_4_method_18_code 81 = .ok (.ifCond .ne 7, 3) := by decide +kernel
theorem d_La_reckon_104 : decode prog_4_method_18_code 104 = .ok (.iload_n 1, 1) := by decide +kernel
theorem d_La_reckon_105 : decode prog_4_method_18_code 105 = .ok (.iload_n 2, 1) := by decide +kernel
theorem d_La_reckon_113 : decode prog_4_method_18_code 113 = .ok (.iconst 0, 1) := by decide +kernel
theorem d_La_reckon_114 : decode prog_4_method_18_code 114 = .ok (.ireturn, 1) := by decide +kernel
theorem d_La_reckon_109 : decode prog_4_method_18_code 109 = .ok (.iconst 1, 1) := by decide +kernel
theorem d_La_reckon_110 : decode prog_4_method_18_code 110 = .ok (.goto 4, 3) := by decide +kernel
theorem d_La_reckon_106 : decode prog_4_method_18_code 106 = .ok (.if_icmp .ge 7, 3) := by decide +kernel
theorem d_La_reckon_115 : decode prog_4_method_18_code 115 = .ok (.iload_n 1, 1) := by decide +kernel
theorem d_La_reckon_116 : decode prog_4_method_18_code 116 = .ok (.iload_n 2, 1) := by decide +kernel
theorem d_La_reckon_124 : decode prog_4_method_18_code 124 = .ok (.iconst 0, 1) := by decide +kernel
theorem d_La_reckon_125 : decode prog_4_method_18_code 125 = .ok (.ireturn, 1) := by decide +kernel
theorem d_La_reckon_120 : decode prog_4_method_18_code 120 = .ok (.iconst 1, 1) := by decide +kernel
theorem d_La_reckon_121 : decode prog_4_method_18_code 121 = .ok (.goto 4, 3) := by decide +kernel
theorem d_La_reckon_117 : decode prog_4_method_18_code 117 = .ok (.if_icmp .le 7, 3) := by decide +kernel
theorem d_La_reckon_126 : decode prog_4_method_18_code 126 = .ok (.iload_n 1, 1) := by decide +kernel
theorem d_La_reckon_127 : decode prog_4_method_18_code 127 = .ok (.iload_n 2, 1) := by decide +kernel
theorem d_La_reckon_135 : decode prog_4_method_18_code 135 = .ok (.iconst 0, 1) := by decide +kernel
theorem d_La_reckon_136 : decode prog_4_method_18_code 136 = .ok (.ireturn, 1) := by decide +kernel
theorem d_La_reckon_131 : decode prog_4_method_18_code 131 = .ok (.iconst 1, 1) := by decide +kernel
theorem d_La_reckon_132 : decode prog_4_method_18_code 132 = .ok (.goto 4, 3) := by decide +kernel
theorem d_La_reckon_128 : decode prog_4_method_18_code 128 = .ok (.if_icmp .ne 7, 3) := by decide +kernel
theorem d_La_reckon_1 : decode prog_4_method_18_code 1 = .ok (.lookupswitch 125 #[(37, 91), (42, 75), (43, 67), (45, 71), (47, 79), (60, 103), (62, 114)], 67) := by decide +kernel
def f_La_reckon (a0 : Int32) (a1 : Int32) (a2 : Int32) : Option (Int32) :=
  if a0 = 37 then
    (if a2 = 0 then
      (some 0)
    else
      (grd (decide (¬ a2 = 0)) <|
      some (a1 - a1 / a2 * a2)))
  else
  if a0 = 42 then
    (some (a1 * a2))
  else
  if a0 = 43 then
    (some (a1 + a2))
  else
  if a0 = 45 then
    (some (a1 - a2))
  else
  if a0 = 47 then
    (if a2 = 0 then
      (some 0)
    else
      (grd (decide (¬ a2 = 0)) <|
      some (a1 / a2)))
  else
  if a0 = 60 then
    (if a2 ≤ a1 then
      (some 0)
    else
      (some 1))
  else
  if a0 = 62 then
    (if a1 ≤ a2 then
      (some 0)
    else
      (some 1))
  else
  (if a1 = a2 then
    (some 1)
  else
    (some 0))
set_option maxHeartbeats 4000000 in
set_option maxRecDepth 20000 in
theorem c_La_reckon (Z : ZX) {σ : Mem} {a0 : Int32} {a1 : Int32} {a2 : Int32} {r : Int32} (h : f_La_reckon a0 a1 a2 = some r) : CI Z 0 m_La_reckon [.int a0, .int a1, .int a2] σ r σ := by
  refine Ct.of (by decide +kernel) (Nat.le_of_ble_eq_true rfl) (fun Y => ?_)
  show V (mkB Z) Y m_La_reckon 0 (QP (mkB Z) Y nC 0 0 (fun v t => v = some (.int r) ∧ t = σ)) 0 0 nC σ 0 [(0, .int a0), (1, .int a1), (2, .int a2)] []
  unfold f_La_reckon at h
  refine V.iload_n d_La_reckon_0 rfl 0 rfl ?_
  by_cases hs1_0 : a0 = 37
  · replace h := ite_t hs1_0 h
    refine V.lsw (off := 91) (tgt := 92) d_La_reckon_1 (by decide) (by rw [hs1_0]; decide) (by decide) ?_
    refine V.iload_n d_La_reckon_92 rfl 2 rfl ?_
    refine V.if_ne (tgt := 100) d_La_reckon_93 (by decide) (fun hc93 => ?_) (fun hc93 => ?_)
    · replace h := ite_f hc93 h
      refine V.iload_n d_La_reckon_100 rfl 1 rfl ?_
      refine V.iload_n d_La_reckon_101 rfl 2 rfl ?_
      obtain ⟨gq, h⟩ := grd_e h
      refine V.irem d_La_reckon_102 (of_decide_eq_true gq) ?_
      cases h
      exact V.iret rfl d_La_reckon_103 ⟨rfl, rfl⟩
    · replace h := ite_t hc93 h
      refine V.iconst (v := 0) d_La_reckon_96 (by decide) ?_
      refine V.goto (tgt := 103) d_La_reckon_97 (by decide) ?_
      cases h
      exact V.iret rfl d_La_reckon_103 ⟨rfl, rfl⟩
  · replace h := ite_f hs1_0 h
    by_cases hs1_1 : a0 = 42
    · replace h := ite_t hs1_1 h
      refine V.lsw (off := 75) (tgt := 76) d_La_reckon_1 (by decide) (by rw [hs1_1]; decide) (by decide) ?_
      refine V.iload_n d_La_reckon_76 rfl 1 rfl ?_
      refine V.iload_n d_La_reckon_77 rfl 2 rfl ?_
      refine V.imul d_La_reckon_78 ?_
      cases h
      exact V.iret rfl d_La_reckon_79 ⟨rfl, rfl⟩
    · replace h := ite_f hs1_1 h
      by_cases hs1_2 : a0 = 43
      · replace h := ite_t hs1_2 h
        refine V.lsw (off := 67) (tgt := 68) d_La_reckon_1 (by decide) (by rw [hs1_2]; decide) (by decide) ?_
        refine V.iload_n d_La_reckon_68 rfl 1 rfl ?_
        refine V.iload_n d_La_reckon_69 rfl 2 rfl ?_
        refine V.iadd d_La_reckon_70 ?_
        cases h
        exact V.iret rfl d_La_reckon_71 ⟨rfl, rfl⟩
      · replace h := ite_f hs1_2 h
        by_cases hs1_3 : a0 = 45
        · replace h := ite_t hs1_3 h
          refine V.lsw (off := 71) (tgt := 72) d_La_reckon_1 (by decide) (by rw [hs1_3]; decide) (by decide) ?_
          refine V.iload_n d_La_reckon_72 rfl 1 rfl ?_
          refine V.iload_n d_La_reckon_73 rfl 2 rfl ?_
          refine V.isub d_La_reckon_74 ?_
          cases h
          exact V.iret rfl d_La_reckon_75 ⟨rfl, rfl⟩
        · replace h := ite_f hs1_3 h
          by_cases hs1_4 : a0 = 47
          · replace h := ite_t hs1_4 h
            refine V.lsw (off := 79) (tgt := 80) d_La_reckon_1 (by decide) (by rw [hs1_4]; decide) (by decide) ?_
            refine V.iload_n d_La_reckon_80 rfl 2 rfl ?_
            refine V.if_ne (tgt := 88) d_La_reckon_81 (by decide) (fun hc81 => ?_) (fun hc81 => ?_)
            · replace h := ite_f hc81 h
              refine V.iload_n d_La_reckon_88 rfl 1 rfl ?_
              refine V.iload_n d_La_reckon_89 rfl 2 rfl ?_
              obtain ⟨gq, h⟩ := grd_e h
              refine V.idiv d_La_reckon_90 (of_decide_eq_true gq) ?_
              cases h
              exact V.iret rfl d_La_reckon_91 ⟨rfl, rfl⟩
            · replace h := ite_t hc81 h
              refine V.iconst (v := 0) d_La_reckon_84 (by decide) ?_
              refine V.goto (tgt := 91) d_La_reckon_85 (by decide) ?_
              cases h
              exact V.iret rfl d_La_reckon_91 ⟨rfl, rfl⟩
          · replace h := ite_f hs1_4 h
            by_cases hs1_5 : a0 = 60
            · replace h := ite_t hs1_5 h
              refine V.lsw (off := 103) (tgt := 104) d_La_reckon_1 (by decide) (by rw [hs1_5]; decide) (by decide) ?_
              refine V.iload_n d_La_reckon_104 rfl 1 rfl ?_
              refine V.iload_n d_La_reckon_105 rfl 2 rfl ?_
              refine V.icmp_ge (tgt := 113) d_La_reckon_106 (by decide) (fun hc106 => ?_) (fun hc106 => ?_)
              · replace h := ite_t hc106 h
                refine V.iconst (v := 0) d_La_reckon_113 (by decide) ?_
                cases h
                exact V.iret rfl d_La_reckon_114 ⟨rfl, rfl⟩
              · replace h := ite_f hc106 h
                refine V.iconst (v := 1) d_La_reckon_109 (by decide) ?_
                refine V.goto (tgt := 114) d_La_reckon_110 (by decide) ?_
                cases h
                exact V.iret rfl d_La_reckon_114 ⟨rfl, rfl⟩
            · replace h := ite_f hs1_5 h
              by_cases hs1_6 : a0 = 62
              · replace h := ite_t hs1_6 h
                refine V.lsw (off := 114) (tgt := 115) d_La_reckon_1 (by decide) (by rw [hs1_6]; decide) (by decide) ?_
                refine V.iload_n d_La_reckon_115 rfl 1 rfl ?_
                refine V.iload_n d_La_reckon_116 rfl 2 rfl ?_
                refine V.icmp_le (tgt := 124) d_La_reckon_117 (by decide) (fun hc117 => ?_) (fun hc117 => ?_)
                · replace h := ite_t hc117 h
                  refine V.iconst (v := 0) d_La_reckon_124 (by decide) ?_
                  cases h
                  exact V.iret rfl d_La_reckon_125 ⟨rfl, rfl⟩
                · replace h := ite_f hc117 h
                  refine V.iconst (v := 1) d_La_reckon_120 (by decide) ?_
                  refine V.goto (tgt := 125) d_La_reckon_121 (by decide) ?_
                  cases h
                  exact V.iret rfl d_La_reckon_125 ⟨rfl, rfl⟩
              · replace h := ite_f hs1_6 h
                refine V.lsw (off := 125) (tgt := 126) d_La_reckon_1 (by decide) (by show Op.lookupswitch.offset [(37, 91), (42, 75), (43, 67), (45, 71), (47, 79), (60, 103), (62, 114)] _ _ = _; rw [lv_osw hs1_0 (by decide), lv_osw hs1_1 (by decide), lv_osw hs1_2 (by decide), lv_osw hs1_3 (by decide), lv_osw hs1_4 (by decide), lv_osw hs1_5 (by decide), lv_osw hs1_6 (by decide)]; rfl) (by decide) ?_
                refine V.iload_n d_La_reckon_126 rfl 1 rfl ?_
                refine V.iload_n d_La_reckon_127 rfl 2 rfl ?_
                refine V.icmp_ne (tgt := 135) d_La_reckon_128 (by decide) (fun hc128 => ?_) (fun hc128 => ?_)
                · replace h := ite_f hc128 h
                  refine V.iconst (v := 0) d_La_reckon_135 (by decide) ?_
                  cases h
                  exact V.iret rfl d_La_reckon_136 ⟨rfl, rfl⟩
                · replace h := ite_t hc128 h
                  refine V.iconst (v := 1) d_La_reckon_131 (by decide) ?_
                  refine V.goto (tgt := 136) d_La_reckon_132 (by decide) ?_
                  cases h
                  exact V.iret rfl d_La_reckon_136 ⟨rfl, rfl⟩
abbrev m_La_run : MI := (⟨"ShadeTown$Law", "run", "(I)I"⟩, prog_4_method_17_code, 8, (Option.some Jvm.ClassFile.FieldType.int))
theorem d_La_run_0 : decode prog_4_method_17_code 0 = .ok (.iconst 0, 1) := by decide +kernel
theorem d_La_run_1 : decode prog_4_method_17_code 1 = .ok (.istore_n 2, 1) := by decide +kernel
theorem d_La_run_2 : decode prog_4_method_17_code 2 = .ok (.iload_n 1, 1) := by decide +kernel
theorem d_La_run_3 : decode prog_4_method_17_code 3 = .ok (.istore_n 3, 1) := by decide +kernel
theorem d_La_run_4 : decode prog_4_method_17_code 4 = .ok (.iconst 0, 1) := by decide +kernel
theorem d_La_run_5 : decode prog_4_method_17_code 5 = .ok (.istore 4, 2) := by decide +kernel
theorem d_La_run_7 : decode prog_4_method_17_code 7 = .ok (.iload 4, 2) := by decide +kernel
theorem d_La_run_9 : decode prog_4_method_17_code 9 = .ok (.sipush 513, 3) := by decide +kernel
theorem d_La_run_15 : decode prog_4_method_17_code 15 = .ok (.iload_n 3, 1) := by decide +kernel
theorem d_La_run_19 : decode prog_4_method_17_code 19 = .ok (.iload_n 3, 1) := by decide +kernel
theorem d_La_run_20 : decode prog_4_method_17_code 20 = .ok (.iconst 1, 1) := by decide +kernel
theorem d_La_run_21 : decode prog_4_method_17_code 21 = .ok (.iadd, 1) := by decide +kernel
theorem d_La_run_22 : decode prog_4_method_17_code 22 = .ok (.sipush 513, 3) := by decide +kernel
theorem d_La_run_28 : decode prog_4_method_17_code 28 = .ok (.iload_n 2, 1) := by decide +kernel
theorem d_La_run_29 : decode prog_4_method_17_code 29 = .ok (.bipush 32, 2) := by decide +kernel
theorem d_La_run_34 : decode prog_4_method_17_code 34 = .ok (.aload_n 0, 1) := by decide +kernel
theorem d_La_run_35 : decode prog_4_method_17_code 35 = .ok (.getfield 11, 3) := by decide +kernel
theorem d_La_run_38 : decode prog_4_method_17_code 38 = .ok (.iload_n 3, 1) := by decide +kernel
theorem d_La_run_39 : decode prog_4_method_17_code 39 = .ok (.iaload, 1) := by decide +kernel
theorem d_La_run_40 : decode prog_4_method_17_code 40 = .ok (.istore 5, 2) := by decide +kernel
theorem d_La_run_42 : decode prog_4_method_17_code 42 = .ok (.aload_n 0, 1) := by decide +kernel
theorem d_La_run_43 : decode prog_4_method_17_code 43 = .ok (.getfield 11, 3) := by decide +kernel
theorem d_La_run_46 : decode prog_4_method_17_code 46 = .ok (.iload_n 3, 1) := by decide +kernel
theorem d_La_run_47 : decode prog_4_method_17_code 47 = .ok (.iconst 1, 1) := by decide +kernel
theorem d_La_run_48 : decode prog_4_method_17_code 48 = .ok (.iadd, 1) := by decide +kernel
theorem d_La_run_49 : decode prog_4_method_17_code 49 = .ok (.iaload, 1) := by decide +kernel
theorem d_La_run_50 : decode prog_4_method_17_code 50 = .ok (.istore 6, 2) := by decide +kernel
theorem d_La_run_52 : decode prog_4_method_17_code 52 = .ok (.iload 5, 2) := by decide +kernel
theorem d_La_run_54 : decode prog_4_method_17_code 54 = .ok (.iconst 1, 1) := by decide +kernel
theorem d_La_run_58 : decode prog_4_method_17_code 58 = .ok (.iload 5, 2) := by decide +kernel
theorem d_La_run_60 : decode prog_4_method_17_code 60 = .ok (.iconst 2, 1) := by decide +kernel
theorem d_La_run_64 : decode prog_4_method_17_code 64 = .ok (.iload 6, 2) := by decide +kernel
theorem d_La_run_69 : decode prog_4_method_17_code 69 = .ok (.iload 6, 2) := by decide +kernel
theorem d_La_run_71 : decode prog_4_method_17_code 71 = .ok (.aload_n 0, 1) := by decide +kernel
theorem d_La_run_72 : decode prog_4_method_17_code 72 = .ok (.getfield 31, 3) := by decide +kernel
theorem d_La_run_75 : decode prog_4_method_17_code 75 = .ok (.arraylength, 1) := by decide +kernel
theorem d_La_run_76 : decode prog_4_method_17_code 76 = .ok (.if_icmp .ge 36, 3) := by decide +kernel
theorem d_La_run_66 : decode prog_4_method_17_code 66 = .ok (.ifCond .lt 46, 3) := by decide +kernel
theorem d_La_run_61 : decode prog_4_method_17_code 61 = .ok (.if_icmp .ne 51, 3) := by decide +kernel
theorem d_La_run_55 : decode prog_4_method_17_code 55 = .ok (.if_icmp .eq 24, 3) := by decide +kernel
theorem d_La_run_31 : decode prog_4_method_17_code 31 = .ok (.if_icmp .ge 287, 3) := by decide +kernel
theorem d_La_run_25 : decode prog_4_method_17_code 25 = .ok (.if_icmp .ge 293, 3) := by decide +kernel
theorem d_La_run_16 : decode prog_4_method_17_code 16 = .ok (.ifCond .lt 302, 3) := by decide +kernel
theorem d_La_run_12 : decode prog_4_method_17_code 12 = .ok (.if_icmp .ge 306, 3) := by decide +kernel
theorem d_La_run_79 : decode prog_4_method_17_code 79 = .ok (.aload_n 0, 1) := by decide +kernel
theorem fl_La_34 : FL "ShadeTown$Law" 34 T_La 7 := atG 167 (by decide +kernel) rfl
theorem d_La_run_80 : decode prog_4_method_17_code 80 = .ok (.getfield 34, 3) := by decide +kernel
theorem d_La_run_83 : decode prog_4_method_17_code 83 = .ok (.iload_n 2, 1) := by decide +kernel
theorem d_La_run_84 : decode prog_4_method_17_code 84 = .ok (.iload 5, 2) := by decide +kernel
theorem d_La_run_86 : decode prog_4_method_17_code 86 = .ok (.iconst 1, 1) := by decide +kernel
theorem d_La_run_95 : decode prog_4_method_17_code 95 = .ok (.aload_n 0, 1) := by decide +kernel
theorem d_La_run_96 : decode prog_4_method_17_code 96 = .ok (.getfield 31, 3) := by decide +kernel
theorem d_La_run_99 : decode prog_4_method_17_code 99 = .ok (.iload 6, 2) := by decide +kernel
theorem d_La_run_101 : decode prog_4_method_17_code 101 = .ok (.iaload, 1) := by decide +kernel
theorem d_La_run_90 : decode prog_4_method_17_code 90 = .ok (.iload 6, 2) := by decide +kernel
theorem d_La_run_92 : decode prog_4_method_17_code 92 = .ok (.goto 10, 3) := by decide +kernel
theorem d_La_run_87 : decode prog_4_method_17_code 87 = .ok (.if_icmp .ne 8, 3) := by decide +kernel
theorem d_La_run_102 : decode prog_4_method_17_code 102 = .ok (.iastore, 1) := by decide +kernel
theorem d_La_run_103 : decode prog_4_method_17_code 103 = .ok (.iinc 2 1, 3) := by decide +kernel
theorem d_La_run_106 : decode prog_4_method_17_code 106 = .ok (.iinc 3 2, 3) := by decide +kernel
theorem d_La_run_109 : decode prog_4_method_17_code 109 = .ok (.goto 203, 3) := by decide +kernel
theorem d_La_run_312 : decode prog_4_method_17_code 312 = .ok (.iinc 4 1, 3) := by decide +kernel
theorem d_La_run_315 : decode prog_4_method_17_code 315 = .ok (.goto (-308), 3) := by decide +kernel
theorem d_La_run_112 : decode prog_4_method_17_code 112 = .ok (.iload_n 2, 1) := by decide +kernel
theorem d_La_run_116 : decode prog_4_method_17_code 116 = .ok (.iload 5, 2) := by decide +kernel
theorem d_La_run_138 : decode prog_4_method_17_code 138 = .ok (.iload 5, 2) := by decide +kernel
theorem d_La_run_140 : decode prog_4_method_17_code 140 = .ok (.iconst 3, 1) := by decide +kernel
theorem d_La_run_144 : decode prog_4_method_17_code 144 = .ok (.iload 5, 2) := by decide +kernel
theorem d_La_run_146 : decode prog_4_method_17_code 146 = .ok (.iconst 4, 1) := by decide +kernel
theorem d_La_run_217 : decode prog_4_method_17_code 217 = .ok (.iload 5, 2) := by decide +kernel
theorem d_La_run_219 : decode prog_4_method_17_code 219 = .ok (.iconst 5, 1) := by decide +kernel
theorem d_La_run_247 : decode prog_4_method_17_code 247 = .ok (.iload_n 2, 1) := by decide +kernel
theorem d_La_run_248 : decode prog_4_method_17_code 248 = .ok (.iconst 2, 1) := by decide +kernel
theorem d_La_run_252 : decode prog_4_method_17_code 252 = .ok (.aload_n 0, 1) := by decide +kernel
theorem d_La_run_253 : decode prog_4_method_17_code 253 = .ok (.getfield 34, 3) := by decide +kernel
theorem d_La_run_256 : decode prog_4_method_17_code 256 = .ok (.iload_n 2, 1) := by decide +kernel
theorem d_La_run_257 : decode prog_4_method_17_code 257 = .ok (.iconst 1, 1) := by decide +kernel
theorem d_La_run_258 : decode prog_4_method_17_code 258 = .ok (.isub, 1) := by decide +kernel
theorem d_La_run_259 : decode prog_4_method_17_code 259 = .ok (.iaload, 1) := by decide +kernel
theorem d_La_run_263 : decode prog_4_method_17_code 263 = .ok (.iload 5, 2) := by decide +kernel
theorem d_La_run_265 : decode prog_4_method_17_code 265 = .ok (.bipush 47, 2) := by decide +kernel
theorem d_La_run_270 : decode prog_4_method_17_code 270 = .ok (.iload 5, 2) := by decide +kernel
theorem d_La_run_272 : decode prog_4_method_17_code 272 = .ok (.bipush 37, 2) := by decide +kernel
theorem d_La_run_274 : decode prog_4_method_17_code 274 = .ok (.if_icmp .ne 5, 3) := by decide +kernel
theorem d_La_run_267 : decode prog_4_method_17_code 267 = .ok (.if_icmp .eq 10, 3) := by decide +kernel
theorem d_La_run_260 : decode prog_4_method_17_code 260 = .ok (.ifCond .ne 19, 3) := by decide +kernel
theorem d_La_run_249 : decode prog_4_method_17_code 249 = .ok (.if_icmp .lt 28, 3) := by decide +kernel
theorem d_La_run_220 : decode prog_4_method_17_code 220 = .ok (.if_icmp .ne 27, 3) := by decide +kernel
theorem d_La_run_147 : decode prog_4_method_17_code 147 = .ok (.if_icmp .ne 70, 3) := by decide +kernel
theorem d_La_run_141 : decode prog_4_method_17_code 141 = .ok (.if_icmp .eq 9, 3) := by decide +kernel
theorem d_La_run_118 : decode prog_4_method_17_code 118 = .ok (.ifCond .ne 20, 3) := by decide +kernel
theorem d_La_run_113 : decode prog_4_method_17_code 113 = .ok (.ifCond .eq 8, 3) := by decide +kernel
theorem d_La_run_121 : decode prog_4_method_17_code 121 = .ok (.iload_n 2, 1) := by decide +kernel
theorem d_La_run_129 : decode prog_4_method_17_code 129 = .ok (.aload_n 0, 1) := by decide +kernel
theorem d_La_run_130 : decode prog_4_method_17_code 130 = .ok (.getfield 34, 3) := by decide +kernel
theorem d_La_run_133 : decode prog_4_method_17_code 133 = .ok (.iload_n 2, 1) := by decide +kernel
theorem d_La_run_134 : decode prog_4_method_17_code 134 = .ok (.iconst 1, 1) := by decide +kernel
theorem d_La_run_135 : decode prog_4_method_17_code 135 = .ok (.isub, 1) := by decide +kernel
theorem d_La_run_136 : decode prog_4_method_17_code 136 = .ok (.iaload, 1) := by decide +kernel
theorem d_La_run_137 : decode prog_4_method_17_code 137 = .ok (.ireturn, 1) := by decide +kernel
theorem d_La_run_125 : decode prog_4_method_17_code 125 = .ok (.iconst 0, 1) := by decide +kernel
theorem d_La_run_126 : decode prog_4_method_17_code 126 = .ok (.goto 11, 3) := by decide +kernel
theorem d_La_run_122 : decode prog_4_method_17_code 122 = .ok (.ifCond .ne 7, 3) := by decide +kernel
theorem d_La_run_150 : decode prog_4_method_17_code 150 = .ok (.aload_n 0, 1) := by decide +kernel
theorem d_La_run_151 : decode prog_4_method_17_code 151 = .ok (.getfield 34, 3) := by decide +kernel
theorem d_La_run_154 : decode prog_4_method_17_code 154 = .ok (.iload_n 2, 1) := by decide +kernel
theorem d_La_run_155 : decode prog_4_method_17_code 155 = .ok (.iconst 1, 1) := by decide +kernel
theorem d_La_run_156 : decode prog_4_method_17_code 156 = .ok (.isub, 1) := by decide +kernel
theorem d_La_run_157 : decode prog_4_method_17_code 157 = .ok (.iaload, 1) := by decide +kernel
theorem d_La_run_165 : decode prog_4_method_17_code 165 = .ok (.iconst 0, 1) := by decide +kernel
theorem d_La_run_161 : decode prog_4_method_17_code 161 = .ok (.iconst 1, 1) := by decide +kernel
theorem d_La_run_162 : decode prog_4_method_17_code 162 = .ok (.goto 4, 3) := by decide +kernel
theorem d_La_run_158 : decode prog_4_method_17_code 158 = .ok (.ifCond .ne 7, 3) := by decide +kernel
theorem d_La_run_166 : decode prog_4_method_17_code 166 = .ok (.iload 5, 2) := by decide +kernel
theorem d_La_run_168 : decode prog_4_method_17_code 168 = .ok (.iconst 3, 1) := by decide +kernel
theorem d_La_run_176 : decode prog_4_method_17_code 176 = .ok (.iconst 0, 1) := by decide +kernel
theorem d_La_run_172 : decode prog_4_method_17_code 172 = .ok (.iconst 1, 1) := by decide +kernel
theorem d_La_run_173 : decode prog_4_method_17_code 173 = .ok (.goto 4, 3) := by decide +kernel
theorem d_La_run_169 : decode prog_4_method_17_code 169 = .ok (.if_icmp .ne 7, 3) := by decide +kernel
theorem d_La_run_184 : decode prog_4_method_17_code 184 = .ok (.iconst 0, 1) := by decide +kernel
theorem d_La_run_180 : decode prog_4_method_17_code 180 = .ok (.iconst 1, 1) := by decide +kernel
theorem d_La_run_181 : decode prog_4_method_17_code 181 = .ok (.goto 4, 3) := by decide +kernel
theorem d_La_run_177 : decode prog_4_method_17_code 177 = .ok (.if_icmp .ne 7, 3) := by decide +kernel
theorem d_La_run_185 : decode prog_4_method_17_code 185 = .ok (.istore 7, 2) := by decide +kernel
theorem d_La_run_187 : decode prog_4_method_17_code 187 = .ok (.iload_n 2, 1) := by decide +kernel
theorem d_La_run_188 : decode prog_4_method_17_code 188 = .ok (.iload 7, 2) := by decide +kernel
theorem d_La_run_197 : decode prog_4_method_17_code 197 = .ok (.iconst 1, 1) := by decide +kernel
theorem d_La_run_193 : decode prog_4_method_17_code 193 = .ok (.iconst 0, 1) := by decide +kernel
theorem d_La_run_194 : decode prog_4_method_17_code 194 = .ok (.goto 4, 3) := by decide +kernel
theorem d_La_run_190 : decode prog_4_method_17_code 190 = .ok (.ifCond .eq 7, 3) := by decide +kernel
theorem d_La_run_198 : decode prog_4_method_17_code 198 = .ok (.isub, 1) := by decide +kernel
theorem d_La_run_199 : decode prog_4_method_17_code 199 = .ok (.istore_n 2, 1) := by decide +kernel
theorem d_La_run_200 : decode prog_4_method_17_code 200 = .ok (.iload 7, 2) := by decide +kernel
theorem d_La_run_210 : decode prog_4_method_17_code 210 = .ok (.iload_n 3, 1) := by decide +kernel
theorem d_La_run_211 : decode prog_4_method_17_code 211 = .ok (.iconst 2, 1) := by decide +kernel
theorem d_La_run_212 : decode prog_4_method_17_code 212 = .ok (.iadd, 1) := by decide +kernel
theorem d_La_run_205 : decode prog_4_method_17_code 205 = .ok (.iload 6, 2) := by decide +kernel
theorem d_La_run_207 : decode prog_4_method_17_code 207 = .ok (.goto 6, 3) := by decide +kernel
theorem d_La_run_202 : decode prog_4_method_17_code 202 = .ok (.ifCond .eq 8, 3) := by decide +kernel
theorem d_La_run_213 : decode prog_4_method_17_code 213 = .ok (.istore_n 3, 1) := by decide +kernel
theorem d_La_run_214 : decode prog_4_method_17_code 214 = .ok (.goto 98, 3) := by decide +kernel
theorem d_La_run_277 : decode prog_4_method_17_code 277 = .ok (.iconst 0, 1) := by decide +kernel
theorem d_La_run_278 : decode prog_4_method_17_code 278 = .ok (.ireturn, 1) := by decide +kernel
theorem d_La_run_279 : decode prog_4_method_17_code 279 = .ok (.iinc 2 (-1), 3) := by decide +kernel
theorem d_La_run_282 : decode prog_4_method_17_code 282 = .ok (.aload_n 0, 1) := by decide +kernel
theorem d_La_run_283 : decode prog_4_method_17_code 283 = .ok (.getfield 34, 3) := by decide +kernel
theorem d_La_run_286 : decode prog_4_method_17_code 286 = .ok (.iload_n 2, 1) := by decide +kernel
theorem d_La_run_287 : decode prog_4_method_17_code 287 = .ok (.iconst 1, 1) := by decide +kernel
theorem d_La_run_288 : decode prog_4_method_17_code 288 = .ok (.isub, 1) := by decide +kernel
theorem d_La_run_289 : decode prog_4_method_17_code 289 = .ok (.iload 5, 2) := by decide +kernel
theorem d_La_run_291 : decode prog_4_method_17_code 291 = .ok (.aload_n 0, 1) := by decide +kernel
theorem d_La_run_292 : decode prog_4_method_17_code 292 = .ok (.getfield 34, 3) := by decide +kernel
theorem d_La_run_295 : decode prog_4_method_17_code 295 = .ok (.iload_n 2, 1) := by decide +kernel
theorem d_La_run_296 : decode prog_4_method_17_code 296 = .ok (.iconst 1, 1) := by decide +kernel
theorem d_La_run_297 : decode prog_4_method_17_code 297 = .ok (.isub, 1) := by decide +kernel
theorem d_La_run_298 : decode prog_4_method_17_code 298 = .ok (.iaload, 1) := by decide +kernel
theorem d_La_run_299 : decode prog_4_method_17_code 299 = .ok (.aload_n 0, 1) := by decide +kernel
theorem d_La_run_300 : decode prog_4_method_17_code 300 = .ok (.getfield 34, 3) := by decide +kernel
theorem d_La_run_303 : decode prog_4_method_17_code 303 = .ok (.iload_n 2, 1) := by decide +kernel
theorem d_La_run_304 : decode prog_4_method_17_code 304 = .ok (.iaload, 1) := by decide +kernel
theorem d_La_run_305 : decode prog_4_method_17_code 305 = .ok (.invokestatic 70, 3) := by decide +kernel
theorem k_La_reckon : MOk m_La_reckon 3 ∧ Cond.static m_La_reckon.1 ∈ tblG := ⟨⟨atG 780 (by decide +kernel) rfl, atG 113 (by decide +kernel) rfl, ⟨by decide, by decide⟩, by decide +kernel, by decide⟩, atG 779 (by decide +kernel) rfl⟩
theorem lk_La_70 : Cond.methodLink "ShadeTown$Law" 70 ⟨"ShadeTown$Law", "reckon", "(III)I"⟩ ∈ tblG := atG 778 (by decide +kernel) rfl
theorem d_La_run_308 : decode prog_4_method_17_code 308 = .ok (.iastore, 1) := by decide +kernel
theorem d_La_run_309 : decode prog_4_method_17_code 309 = .ok (.iinc 3 1, 3) := by decide +kernel
theorem d_La_run_223 : decode prog_4_method_17_code 223 = .ok (.aload_n 0, 1) := by decide +kernel
theorem d_La_run_224 : decode prog_4_method_17_code 224 = .ok (.getfield 34, 3) := by decide +kernel
theorem d_La_run_227 : decode prog_4_method_17_code 227 = .ok (.iload_n 2, 1) := by decide +kernel
theorem d_La_run_228 : decode prog_4_method_17_code 228 = .ok (.iconst 1, 1) := by decide +kernel
theorem d_La_run_229 : decode prog_4_method_17_code 229 = .ok (.isub, 1) := by decide +kernel
theorem d_La_run_230 : decode prog_4_method_17_code 230 = .ok (.iconst 1, 1) := by decide +kernel
theorem d_La_run_231 : decode prog_4_method_17_code 231 = .ok (.aload_n 0, 1) := by decide +kernel
theorem d_La_run_232 : decode prog_4_method_17_code 232 = .ok (.getfield 34, 3) := by decide +kernel
theorem d_La_run_235 : decode prog_4_method_17_code 235 = .ok (.iload_n 2, 1) := by decide +kernel
theorem d_La_run_236 : decode prog_4_method_17_code 236 = .ok (.iconst 1, 1) := by decide +kernel
theorem d_La_run_237 : decode prog_4_method_17_code 237 = .ok (.isub, 1) := by decide +kernel
theorem d_La_run_238 : decode prog_4_method_17_code 238 = .ok (.iaload, 1) := by decide +kernel
theorem d_La_run_239 : decode prog_4_method_17_code 239 = .ok (.isub, 1) := by decide +kernel
theorem d_La_run_240 : decode prog_4_method_17_code 240 = .ok (.iastore, 1) := by decide +kernel
theorem d_La_run_241 : decode prog_4_method_17_code 241 = .ok (.iinc 3 1, 3) := by decide +kernel
theorem d_La_run_244 : decode prog_4_method_17_code 244 = .ok (.goto 68, 3) := by decide +kernel
theorem d_La_run_318 : decode prog_4_method_17_code 318 = .ok (.iconst 0, 1) := by decide +kernel
theorem d_La_run_319 : decode prog_4_method_17_code 319 = .ok (.ireturn, 1) := by decide +kernel
def B_La_run_l7 (N : Nat) (rec : Int32 → Int32 → Int32 → Mem → Option ((Int32 × Mem) ⊕ (Mem))) (x2 : Int32) (x3 : Int32) (x4 : Int32) (σ : Mem) : Option ((Int32 × Mem) ⊕ (Mem)) :=
  bnd1 ((
    if 513 ≤ x4 then
      (some (0, 0, 0))
    else
      (if x3 < 0 then
        (some (0, 0, 0))
      else
        (if 513 ≤ (x3 + 1) then
          (some (0, 0, 0))
        else
          (if 32 ≤ x2 then
            (some (0, 0, 0))
          else
            (grd (inb x3 513) <|
            letv (mI σ 4 (x3.toNatClampNeg)) fun v40 =>
            grd (inb (x3 + 1) 513) <|
            letv (mI σ 4 ((x3 + 1).toNatClampNeg)) fun v50 =>
            if v40 = 1 then
              (some (1, v40, v50))
            else
              (if v40 = 2 then
                (if v50 < 0 then
                  (some (2, v40, v50))
                else
                  (if 9 ≤ v50 then
                    (some (2, v40, v50))
                  else
                    (some (1, v40, v50))))
              else
                (some (2, v40, v50)))))))) : Option (Nat × Int32 × Int32)) fun s12b =>
  q3 s12b fun t12b y12b_5 y12b_6 =>
  if t12b = 0 then
    (some (.inr σ))
  else
  if t12b = 1 then
    (bnd1 ((
      if y12b_5 = 1 then
        (some y12b_6)
      else
        (grd (inb y12b_6 9) <|
        some (mI σ 8 (y12b_6.toNatClampNeg)))) : Option (Int32)) fun y87_s2 =>
    grd (inb x2 32) <|
    letv (sI σ 9 (x2.toNatClampNeg) y87_s2) fun σ102 =>
    letv (x2 + 1) fun v103 =>
    letv (x3 + 2) fun v106 =>
    letv (x4 + 1) fun v312 =>
    rec v103 v106 v312 σ102)
  else
  (bnd1 ((
    if x2 = 0 then
      (some 0)
    else
      (if y12b_5 = 0 then
        (some 0)
      else
        (if y12b_5 = 3 then
          (some 1)
        else
          (if y12b_5 = 4 then
            (some 1)
          else
            (if y12b_5 = 5 then
              (some 4)
            else
              (if x2 < 2 then
                (some 2)
              else
                (grd (inb (x2 - 1) 32) <|
                if (mI σ 9 ((x2 - 1).toNatClampNeg)) = 0 then
                  (if y12b_5 = 47 then
                    (some 2)
                  else
                    (if y12b_5 = 37 then
                      (some 2)
                    else
                      (some 3)))
                else
                  (some 3)))))))) : Option (Nat)) fun t113b =>
  if t113b = 0 then
    (if x2 = 0 then
      (some (.inl (0, σ)))
    else
      (grd (inb (x2 - 1) 32) <|
      some (.inl (mI σ 9 ((x2 - 1).toNatClampNeg), σ))))
  else
  if t113b = 1 then
    (grd (inb (x2 - 1) 32) <|
    bnd1 ((
      if (mI σ 9 ((x2 - 1).toNatClampNeg)) = 0 then
        (some 1)
      else
        (some 0)) : Option (Int32)) fun y158_s0 =>
    bnd1 ((
      if y12b_5 = 3 then
        (some 1)
      else
        (some 0)) : Option (Int32)) fun y169_s1 =>
    bnd1 ((
      if y158_s0 = y169_s1 then
        (some 1)
      else
        (some 0)) : Option (Int32)) fun y177_s0 =>
    bnd1 ((
      if y177_s0 = 0 then
        (some 1)
      else
        (some 0)) : Option (Int32)) fun y190_s1 =>
    letv (x2 - y190_s1) fun v199 =>
    bnd1 ((
      if y177_s0 = 0 then
        (some (x3 + 2))
      else
        (some y12b_6)) : Option (Int32)) fun y202_s0 =>
    letv (x4 + 1) fun v312 =>
    rec v199 y202_s0 v312 σ)
  else
  if t113b = 2 then
    (some (.inl (0, σ)))
  else
  if t113b = 3 then
    (letv (x2 + (-1)) fun v279 =>
    grd (inb (v279 - 1) 32) <|
    grd (inb v279 32) <|
    bnd1 (f_La_reckon y12b_5 (mI σ 9 ((v279 - 1).toNatClampNeg)) (mI σ 9 (v279.toNatClampNeg))) fun r305 =>
    grd (inb (v279 - 1) 32) <|
    letv (sI σ 9 ((v279 - 1).toNatClampNeg) r305) fun σ308 =>
    letv (x3 + 1) fun v309 =>
    letv (x4 + 1) fun v312 =>
    rec v279 v309 v312 σ308)
  else
  (grd (inb (x2 - 1) 32) <|
  grd (inb (x2 - 1) 32) <|
  letv (sI σ 9 ((x2 - 1).toNatClampNeg) (1 - (mI σ 9 ((x2 - 1).toNatClampNeg)))) fun σ240 =>
  letv (x3 + 1) fun v241 =>
  letv (x4 + 1) fun v312 =>
  rec x2 v241 v312 σ240))
def L_La_run_l7 (N : Nat) : Nat → Int32 → Int32 → Int32 → Mem → Option ((Int32 × Mem) ⊕ (Mem))
  | 0, _, _, _, _ => none
  | k + 1, x2, x3, x4, σ => B_La_run_l7 N (L_La_run_l7 N k) x2 x3 x4 σ
set_option maxHeartbeats 4000000 in
set_option maxRecDepth 20000 in
theorem cL_La_run_l7 (Z : ZX) {Y : YX} {post : Option Value → Mem → Prop} {N : Nat} {Good : (Int32 × Mem) ⊕ (Mem) → Prop} (hE : ∀ (σe : Mem), Good (.inr σe) → V (mkB Z) Y m_La_run 1 (QP (mkB Z) Y nC 0 0 post) 0 0 nC σe 318 [] []) (hR : ∀ (v : Int32) (σr : Mem), Good (.inl (v, σr)) → post (some (.int v)) σr) : ∀ (k : Nat) (x2 : Int32) (x3 : Int32) (x4 : Int32) (σ : Mem) (res : (Int32 × Mem) ⊕ (Mem)), L_La_run_l7 N k x2 x3 x4 σ = some res → Good res → V (mkB Z) Y m_La_run 1 (QP (mkB Z) Y nC 0 0 post) 0 0 nC σ 7 [(0, rf Z 3), (2, .int x2), (3, .int x3), (4, .int x4)] [] := by
  intro k
  induction k with
  | zero => intro x2 x3 x4 σ res h; cases h
  | succ k ih =>
    intro x2 x3 x4 σ res h hg
    replace h : B_La_run_l7 N (L_La_run_l7 N k) x2 x3 x4 σ = some res := h
    unfold B_La_run_l7 at h
    refine V.iload d_La_run_7 3 rfl ?_
    refine V.sipush (v := 513) d_La_run_9 (by decide) ?_
    obtain ⟨s12b, h1, h⟩ := bnd1_e h
    have J12b_318 : ∀ (y12b_5 : Int32) (y12b_6 : Int32), s12b = (0, y12b_5, y12b_6) → V (mkB Z) Y m_La_run 1 (QP (mkB Z) Y nC 0 0 post) 0 0 nC σ 318 [] [] := by
      intro y12b_5 y12b_6 he
      rw [he] at h
      replace h := q3_e h
      replace h := ite_t rfl h
      cases h
      exact V.pick [] rfl (hE _ hg)
    have J12b_79 : ∀ (y12b_5 : Int32) (y12b_6 : Int32), s12b = (1, y12b_5, y12b_6) → V (mkB Z) Y m_La_run 1 (QP (mkB Z) Y nC 0 0 post) 0 0 nC σ 79 [(0, rf Z 3), (2, .int x2), (3, .int x3), (4, .int x4), (5, .int y12b_5), (6, .int y12b_6)] [] := by
      intro y12b_5 y12b_6 he
      rw [he] at h
      replace h := q3_e h
      replace h := ite_f (by decide) h
      replace h := ite_t rfl h
      refine V.aload_n d_La_run_79 rfl 0 rfl ?_
      refine V.getR (r := 9) ok_La fl_La_34 (by decide) (by decide) ly_3 rfl d_La_run_80 ?_
      refine V.iload_n d_La_run_83 rfl 1 rfl ?_
      refine V.iload d_La_run_84 4 rfl ?_
      refine V.iconst (v := 1) d_La_run_86 (by decide) ?_
      obtain ⟨s87, h1, h⟩ := bnd1_e h
      have J87_102 : ∀ (y87_s2 : Int32), s87 = y87_s2 → V (mkB Z) Y m_La_run 1 (QP (mkB Z) Y nC 0 0 post) 0 0 nC σ 102 [(0, rf Z 3), (2, .int x2), (3, .int x3), (4, .int x4)] [.int y87_s2, .int x2, rf Z 9] := by
        intro y87_s2 he
        rw [he] at h
        obtain ⟨gq, h⟩ := grd_e h
        obtain ⟨σ102, e_σ102, h⟩ := letv_e h
        refine V.wa (by decide) ly_9 (inb_e gq) rfl d_La_run_102 e_σ102 ?_
        obtain ⟨v103, e_v103, h⟩ := letv_e h
        refine V.iinc (v := v103) (lv' := [(2, .int v103), (0, rf Z 3), (3, .int x3), (4, .int x4)]) d_La_run_103 1 rfl (by rw [e_v103]; rfl) (by decide) rfl ?_
        obtain ⟨v106, e_v106, h⟩ := letv_e h
        refine V.iinc (v := v106) (lv' := [(3, .int v106), (2, .int v103), (0, rf Z 3), (4, .int x4)]) d_La_run_106 2 rfl (by rw [e_v106]; rfl) (by decide) rfl ?_
        refine V.goto (tgt := 312) d_La_run_109 (by decide) ?_
        obtain ⟨v312, e_v312, h⟩ := letv_e h
        refine V.iinc (v := v312) (lv' := [(4, .int v312), (3, .int v106), (2, .int v103), (0, rf Z 3)]) d_La_run_312 3 rfl (by rw [e_v312]; rfl) (by decide) rfl ?_
        refine V.goto (tgt := 7) d_La_run_315 (by decide) ?_
        exact V.pick [3, 2, 1, 0] rfl (ih _ _ _ _ _ h hg)
      replace h := h1
      refine V.icmp_ne (tgt := 95) d_La_run_87 (by decide) (fun hc87 => ?_) (fun hc87 => ?_)
      · replace h := ite_f hc87 h
        refine V.aload_n d_La_run_95 rfl 0 rfl ?_
        refine V.getR (r := 8) ok_La fl_La_31 (by decide) (by decide) ly_3 rfl d_La_run_96 ?_
        refine V.iload d_La_run_99 5 rfl ?_
        obtain ⟨gq, h⟩ := grd_e h
        refine V.ra (by decide) ly_8 (inb_e gq) rfl d_La_run_101 ?_
        exact V.pick [0, 1, 2, 3] rfl (J87_102 _ (Option.some.inj h).symm)
      · replace h := ite_t hc87 h
        refine V.iload d_La_run_90 5 rfl ?_
        refine V.goto (tgt := 102) d_La_run_92 (by decide) ?_
        exact V.pick [0, 1, 2, 3] rfl (J87_102 _ (Option.some.inj h).symm)
    have J12b_112 : ∀ (y12b_5 : Int32) (y12b_6 : Int32), s12b = (2, y12b_5, y12b_6) → V (mkB Z) Y m_La_run 1 (QP (mkB Z) Y nC 0 0 post) 0 0 nC σ 112 [(0, rf Z 3), (2, .int x2), (3, .int x3), (4, .int x4), (5, .int y12b_5), (6, .int y12b_6)] [] := by
      intro y12b_5 y12b_6 he
      rw [he] at h
      replace h := q3_e h
      replace h := ite_f (by decide) h
      replace h := ite_f (by decide) h
      refine V.iload_n d_La_run_112 rfl 1 rfl ?_
      obtain ⟨s113b, h1, h⟩ := bnd1_e h
      have J113b_121 : s113b = 0 → V (mkB Z) Y m_La_run 1 (QP (mkB Z) Y nC 0 0 post) 0 0 nC σ 121 [(0, rf Z 3), (2, .int x2)] [] := by
        intro he
        rw [he] at h
        replace h := ite_t rfl h
        refine V.iload_n d_La_run_121 rfl 1 rfl ?_
        refine V.if_ne (tgt := 129) d_La_run_122 (by decide) (fun hc122 => ?_) (fun hc122 => ?_)
        · replace h := ite_f hc122 h
          refine V.aload_n d_La_run_129 rfl 0 rfl ?_
          refine V.getR (r := 9) ok_La fl_La_34 (by decide) (by decide) ly_3 rfl d_La_run_130 ?_
          refine V.iload_n d_La_run_133 rfl 1 rfl ?_
          refine V.iconst (v := 1) d_La_run_134 (by decide) ?_
          refine V.isub d_La_run_135 ?_
          obtain ⟨gq, h⟩ := grd_e h
          refine V.ra (by decide) ly_9 (inb_e gq) rfl d_La_run_136 ?_
          cases h
          exact V.iret rfl d_La_run_137 (hR _ _ hg)
        · replace h := ite_t hc122 h
          refine V.iconst (v := 0) d_La_run_125 (by decide) ?_
          refine V.goto (tgt := 137) d_La_run_126 (by decide) ?_
          cases h
          exact V.iret rfl d_La_run_137 (hR _ _ hg)
      have J113b_150 : s113b = 1 → V (mkB Z) Y m_La_run 1 (QP (mkB Z) Y nC 0 0 post) 0 0 nC σ 150 [(0, rf Z 3), (2, .int x2), (3, .int x3), (4, .int x4), (5, .int y12b_5), (6, .int y12b_6)] [] := by
        intro he
        rw [he] at h
        replace h := ite_f (by decide) h
        replace h := ite_t rfl h
        refine V.aload_n d_La_run_150 rfl 0 rfl ?_
        refine V.getR (r := 9) ok_La fl_La_34 (by decide) (by decide) ly_3 rfl d_La_run_151 ?_
        refine V.iload_n d_La_run_154 rfl 1 rfl ?_
        refine V.iconst (v := 1) d_La_run_155 (by decide) ?_
        refine V.isub d_La_run_156 ?_
        obtain ⟨gq, h⟩ := grd_e h
        refine V.ra (by decide) ly_9 (inb_e gq) rfl d_La_run_157 ?_
        obtain ⟨s158, h1, h⟩ := bnd1_e h
        have J158_166 : ∀ (y158_s0 : Int32), s158 = y158_s0 → V (mkB Z) Y m_La_run 1 (QP (mkB Z) Y nC 0 0 post) 0 0 nC σ 166 [(0, rf Z 3), (2, .int x2), (3, .int x3), (4, .int x4), (5, .int y12b_5), (6, .int y12b_6)] [.int y158_s0] := by
          intro y158_s0 he
          rw [he] at h
          refine V.iload d_La_run_166 4 rfl ?_
          refine V.iconst (v := 3) d_La_run_168 (by decide) ?_
          obtain ⟨s169, h1, h⟩ := bnd1_e h
          have J169_177 : ∀ (y169_s1 : Int32), s169 = y169_s1 → V (mkB Z) Y m_La_run 1 (QP (mkB Z) Y nC 0 0 post) 0 0 nC σ 177 [(0, rf Z 3), (2, .int x2), (3, .int x3), (4, .int x4), (6, .int y12b_6)] [.int y169_s1, .int y158_s0] := by
            intro y169_s1 he
            rw [he] at h
            obtain ⟨s177, h1, h⟩ := bnd1_e h
            have J177_185 : ∀ (y177_s0 : Int32), s177 = y177_s0 → V (mkB Z) Y m_La_run 1 (QP (mkB Z) Y nC 0 0 post) 0 0 nC σ 185 [(0, rf Z 3), (2, .int x2), (3, .int x3), (4, .int x4), (6, .int y12b_6)] [.int y177_s0] := by
              intro y177_s0 he
              rw [he] at h
              refine V.istore (lv' := [(7, .int y177_s0), (0, rf Z 3), (2, .int x2), (3, .int x3), (4, .int x4), (6, .int y12b_6)]) d_La_run_185 (by decide) rfl ?_
              refine V.iload_n d_La_run_187 rfl 2 rfl ?_
              refine V.iload d_La_run_188 0 rfl ?_
              obtain ⟨s190, h1, h⟩ := bnd1_e h
              have J190_198 : ∀ (y190_s1 : Int32), s190 = y190_s1 → V (mkB Z) Y m_La_run 1 (QP (mkB Z) Y nC 0 0 post) 0 0 nC σ 198 [(0, rf Z 3), (3, .int x3), (4, .int x4), (6, .int y12b_6), (7, .int y177_s0)] [.int y190_s1, .int x2] := by
                intro y190_s1 he
                rw [he] at h
                refine V.isub d_La_run_198 ?_
                obtain ⟨v199, e_v199, h⟩ := letv_e h
                refine V.topI e_v199 ?_
                refine V.istore_n (lv' := [(2, .int v199), (0, rf Z 3), (3, .int x3), (4, .int x4), (6, .int y12b_6), (7, .int y177_s0)]) d_La_run_199 rfl (by decide) rfl ?_
                refine V.iload d_La_run_200 5 rfl ?_
                obtain ⟨s202, h1, h⟩ := bnd1_e h
                have J202_213 : ∀ (y202_s0 : Int32), s202 = y202_s0 → V (mkB Z) Y m_La_run 1 (QP (mkB Z) Y nC 0 0 post) 0 0 nC σ 213 [(0, rf Z 3), (2, .int v199), (4, .int x4)] [.int y202_s0] := by
                  intro y202_s0 he
                  rw [he] at h
                  refine V.istore_n (lv' := [(3, .int y202_s0), (0, rf Z 3), (2, .int v199), (4, .int x4)]) d_La_run_213 rfl (by decide) rfl ?_
                  refine V.goto (tgt := 312) d_La_run_214 (by decide) ?_
                  obtain ⟨v312, e_v312, h⟩ := letv_e h
                  refine V.iinc (v := v312) (lv' := [(4, .int v312), (3, .int y202_s0), (0, rf Z 3), (2, .int v199)]) d_La_run_312 3 rfl (by rw [e_v312]; rfl) (by decide) rfl ?_
                  refine V.goto (tgt := 7) d_La_run_315 (by decide) ?_
                  exact V.pick [2, 3, 1, 0] rfl (ih _ _ _ _ _ h hg)
                replace h := h1
                refine V.if_eq (tgt := 210) d_La_run_202 (by decide) (fun hc202 => ?_) (fun hc202 => ?_)
                · replace h := ite_t hc202 h
                  refine V.iload_n d_La_run_210 rfl 2 rfl ?_
                  refine V.iconst (v := 2) d_La_run_211 (by decide) ?_
                  refine V.iadd d_La_run_212 ?_
                  exact V.pick [1, 0, 3] rfl (J202_213 _ (Option.some.inj h).symm)
                · replace h := ite_f hc202 h
                  refine V.iload d_La_run_205 4 rfl ?_
                  refine V.goto (tgt := 213) d_La_run_207 (by decide) ?_
                  exact V.pick [1, 0, 3] rfl (J202_213 _ (Option.some.inj h).symm)
              replace h := h1
              refine V.if_eq (tgt := 197) d_La_run_190 (by decide) (fun hc190 => ?_) (fun hc190 => ?_)
              · replace h := ite_t hc190 h
                refine V.iconst (v := 1) d_La_run_197 (by decide) ?_
                exact V.pick [1, 3, 4, 5, 0] rfl (J190_198 _ (Option.some.inj h).symm)
              · replace h := ite_f hc190 h
                refine V.iconst (v := 0) d_La_run_193 (by decide) ?_
                refine V.goto (tgt := 198) d_La_run_194 (by decide) ?_
                exact V.pick [1, 3, 4, 5, 0] rfl (J190_198 _ (Option.some.inj h).symm)
            replace h := h1
            refine V.icmp_ne (tgt := 184) d_La_run_177 (by decide) (fun hc177 => ?_) (fun hc177 => ?_)
            · replace h := ite_f hc177 h
              refine V.iconst (v := 0) d_La_run_184 (by decide) ?_
              exact V.pick [0, 1, 2, 3, 4] rfl (J177_185 _ (Option.some.inj h).symm)
            · replace h := ite_t hc177 h
              refine V.iconst (v := 1) d_La_run_180 (by decide) ?_
              refine V.goto (tgt := 185) d_La_run_181 (by decide) ?_
              exact V.pick [0, 1, 2, 3, 4] rfl (J177_185 _ (Option.some.inj h).symm)
          replace h := h1
          refine V.icmp_ne (tgt := 176) d_La_run_169 (by decide) (fun hc169 => ?_) (fun hc169 => ?_)
          · replace h := ite_f hc169 h
            refine V.iconst (v := 0) d_La_run_176 (by decide) ?_
            exact V.pick [0, 1, 2, 3, 5] rfl (J169_177 _ (Option.some.inj h).symm)
          · replace h := ite_t hc169 h
            refine V.iconst (v := 1) d_La_run_172 (by decide) ?_
            refine V.goto (tgt := 177) d_La_run_173 (by decide) ?_
            exact V.pick [0, 1, 2, 3, 5] rfl (J169_177 _ (Option.some.inj h).symm)
        replace h := h1
        refine V.if_ne (tgt := 165) d_La_run_158 (by decide) (fun hc158 => ?_) (fun hc158 => ?_)
        · replace h := ite_f hc158 h
          refine V.iconst (v := 0) d_La_run_165 (by decide) ?_
          exact V.pick [0, 1, 2, 3, 4, 5] rfl (J158_166 _ (Option.some.inj h).symm)
        · replace h := ite_t hc158 h
          refine V.iconst (v := 1) d_La_run_161 (by decide) ?_
          refine V.goto (tgt := 166) d_La_run_162 (by decide) ?_
          exact V.pick [0, 1, 2, 3, 4, 5] rfl (J158_166 _ (Option.some.inj h).symm)
      have J113b_277 : s113b = 2 → V (mkB Z) Y m_La_run 1 (QP (mkB Z) Y nC 0 0 post) 0 0 nC σ 277 [] [] := by
        intro he
        rw [he] at h
        replace h := ite_f (by decide) h
        replace h := ite_f (by decide) h
        replace h := ite_t rfl h
        refine V.iconst (v := 0) d_La_run_277 (by decide) ?_
        cases h
        exact V.iret rfl d_La_run_278 (hR _ _ hg)
      have J113b_279 : s113b = 3 → V (mkB Z) Y m_La_run 1 (QP (mkB Z) Y nC 0 0 post) 0 0 nC σ 279 [(0, rf Z 3), (2, .int x2), (3, .int x3), (4, .int x4), (5, .int y12b_5)] [] := by
        intro he
        rw [he] at h
        replace h := ite_f (by decide) h
        replace h := ite_f (by decide) h
        replace h := ite_f (by decide) h
        replace h := ite_t rfl h
        obtain ⟨v279, e_v279, h⟩ := letv_e h
        refine V.iinc (v := v279) (lv' := [(2, .int v279), (0, rf Z 3), (3, .int x3), (4, .int x4), (5, .int y12b_5)]) d_La_run_279 1 rfl (by rw [e_v279]; rfl) (by decide) rfl ?_
        refine V.aload_n d_La_run_282 rfl 1 rfl ?_
        refine V.getR (r := 9) ok_La fl_La_34 (by decide) (by decide) ly_3 rfl d_La_run_283 ?_
        refine V.iload_n d_La_run_286 rfl 0 rfl ?_
        refine V.iconst (v := 1) d_La_run_287 (by decide) ?_
        refine V.isub d_La_run_288 ?_
        refine V.iload d_La_run_289 4 rfl ?_
        refine V.aload_n d_La_run_291 rfl 1 rfl ?_
        refine V.getR (r := 9) ok_La fl_La_34 (by decide) (by decide) ly_3 rfl d_La_run_292 ?_
        refine V.iload_n d_La_run_295 rfl 0 rfl ?_
        refine V.iconst (v := 1) d_La_run_296 (by decide) ?_
        refine V.isub d_La_run_297 ?_
        obtain ⟨gq, h⟩ := grd_e h
        refine V.ra (by decide) ly_9 (inb_e gq) rfl d_La_run_298 ?_
        refine V.aload_n d_La_run_299 rfl 1 rfl ?_
        refine V.getR (r := 9) ok_La fl_La_34 (by decide) (by decide) ly_3 rfl d_La_run_300 ?_
        refine V.iload_n d_La_run_303 rfl 0 rfl ?_
        obtain ⟨gq, h⟩ := grd_e h
        refine V.ra (by decide) ly_9 (inb_e gq) rfl d_La_run_304 ?_
        obtain ⟨r305, h1, h⟩ := bnd1_e h
        refine V.sI (as := [.int y12b_5, .int (mI σ 9 ((v279 - 1).toNatClampNeg)), .int (mI σ 9 (v279.toNatClampNeg))]) (st := [.int (v279 - 1), rf Z 9]) (c_La_reckon Z h1) k_La_reckon lk_La_70 (by decide) rfl rfl (Nat.le_of_ble_eq_true rfl) d_La_run_305 ?_
        obtain ⟨gq, h⟩ := grd_e h
        obtain ⟨σ308, e_σ308, h⟩ := letv_e h
        refine V.wa (by decide) ly_9 (inb_e gq) rfl d_La_run_308 e_σ308 ?_
        obtain ⟨v309, e_v309, h⟩ := letv_e h
        refine V.iinc (v := v309) (lv' := [(3, .int v309), (2, .int v279), (0, rf Z 3), (4, .int x4), (5, .int y12b_5)]) d_La_run_309 2 rfl (by rw [e_v309]; rfl) (by decide) rfl ?_
        obtain ⟨v312, e_v312, h⟩ := letv_e h
        refine V.iinc (v := v312) (lv' := [(4, .int v312), (3, .int v309), (2, .int v279), (0, rf Z 3), (5, .int y12b_5)]) d_La_run_312 3 rfl (by rw [e_v312]; rfl) (by decide) rfl ?_
        refine V.goto (tgt := 7) d_La_run_315 (by decide) ?_
        exact V.pick [3, 2, 1, 0] rfl (ih _ _ _ _ _ h hg)
      have J113b_223 : s113b = 4 → V (mkB Z) Y m_La_run 1 (QP (mkB Z) Y nC 0 0 post) 0 0 nC σ 223 [(0, rf Z 3), (2, .int x2), (3, .int x3), (4, .int x4)] [] := by
        intro he
        rw [he] at h
        replace h := ite_f (by decide) h
        replace h := ite_f (by decide) h
        replace h := ite_f (by decide) h
        replace h := ite_f (by decide) h
        refine V.aload_n d_La_run_223 rfl 0 rfl ?_
        refine V.getR (r := 9) ok_La fl_La_34 (by decide) (by decide) ly_3 rfl d_La_run_224 ?_
        refine V.iload_n d_La_run_227 rfl 1 rfl ?_
        refine V.iconst (v := 1) d_La_run_228 (by decide) ?_
        refine V.isub d_La_run_229 ?_
        refine V.iconst (v := 1) d_La_run_230 (by decide) ?_
        refine V.aload_n d_La_run_231 rfl 0 rfl ?_
        refine V.getR (r := 9) ok_La fl_La_34 (by decide) (by decide) ly_3 rfl d_La_run_232 ?_
        refine V.iload_n d_La_run_235 rfl 1 rfl ?_
        refine V.iconst (v := 1) d_La_run_236 (by decide) ?_
        refine V.isub d_La_run_237 ?_
        obtain ⟨gq, h⟩ := grd_e h
        refine V.ra (by decide) ly_9 (inb_e gq) rfl d_La_run_238 ?_
        refine V.isub d_La_run_239 ?_
        obtain ⟨gq, h⟩ := grd_e h
        obtain ⟨σ240, e_σ240, h⟩ := letv_e h
        refine V.wa (by decide) ly_9 (inb_e gq) rfl d_La_run_240 e_σ240 ?_
        obtain ⟨v241, e_v241, h⟩ := letv_e h
        refine V.iinc (v := v241) (lv' := [(3, .int v241), (0, rf Z 3), (2, .int x2), (4, .int x4)]) d_La_run_241 2 rfl (by rw [e_v241]; rfl) (by decide) rfl ?_
        refine V.goto (tgt := 312) d_La_run_244 (by decide) ?_
        obtain ⟨v312, e_v312, h⟩ := letv_e h
        refine V.iinc (v := v312) (lv' := [(4, .int v312), (3, .int v241), (0, rf Z 3), (2, .int x2)]) d_La_run_312 3 rfl (by rw [e_v312]; rfl) (by decide) rfl ?_
        refine V.goto (tgt := 7) d_La_run_315 (by decide) ?_
        exact V.pick [2, 3, 1, 0] rfl (ih _ _ _ _ _ h hg)
      replace h := h1
      refine V.if_eq (tgt := 121) d_La_run_113 (by decide) (fun hc113 => ?_) (fun hc113 => ?_)
      · replace h := ite_t hc113 h
        exact V.pick [0, 1] rfl (J113b_121 (Option.some.inj h).symm)
      · replace h := ite_f hc113 h
        refine V.iload d_La_run_116 4 rfl ?_
        refine V.if_ne (tgt := 138) d_La_run_118 (by decide) (fun hc118 => ?_) (fun hc118 => ?_)
        · replace h := ite_f hc118 h
          refine V.iload d_La_run_138 4 rfl ?_
          refine V.iconst (v := 3) d_La_run_140 (by decide) ?_
          refine V.icmp_eq (tgt := 150) d_La_run_141 (by decide) (fun hc141 => ?_) (fun hc141 => ?_)
          · replace h := ite_t hc141 h
            exact V.pick [0, 1, 2, 3, 4, 5] rfl (J113b_150 (Option.some.inj h).symm)
          · replace h := ite_f hc141 h
            refine V.iload d_La_run_144 4 rfl ?_
            refine V.iconst (v := 4) d_La_run_146 (by decide) ?_
            refine V.icmp_ne (tgt := 217) d_La_run_147 (by decide) (fun hc147 => ?_) (fun hc147 => ?_)
            · replace h := ite_f hc147 h
              refine V.iload d_La_run_217 4 rfl ?_
              refine V.iconst (v := 5) d_La_run_219 (by decide) ?_
              refine V.icmp_ne (tgt := 247) d_La_run_220 (by decide) (fun hc220 => ?_) (fun hc220 => ?_)
              · replace h := ite_f hc220 h
                refine V.iload_n d_La_run_247 rfl 1 rfl ?_
                refine V.iconst (v := 2) d_La_run_248 (by decide) ?_
                refine V.icmp_lt (tgt := 277) d_La_run_249 (by decide) (fun hc249 => ?_) (fun hc249 => ?_)
                · replace h := ite_t hc249 h
                  exact V.pick [] rfl (J113b_277 (Option.some.inj h).symm)
                · replace h := ite_f hc249 h
                  refine V.aload_n d_La_run_252 rfl 0 rfl ?_
                  refine V.getR (r := 9) ok_La fl_La_34 (by decide) (by decide) ly_3 rfl d_La_run_253 ?_
                  refine V.iload_n d_La_run_256 rfl 1 rfl ?_
                  refine V.iconst (v := 1) d_La_run_257 (by decide) ?_
                  refine V.isub d_La_run_258 ?_
                  obtain ⟨gq, h⟩ := grd_e h
                  refine V.ra (by decide) ly_9 (inb_e gq) rfl d_La_run_259 ?_
                  refine V.if_ne (tgt := 279) d_La_run_260 (by decide) (fun hc260 => ?_) (fun hc260 => ?_)
                  · replace h := ite_f hc260 h
                    exact V.pick [0, 1, 2, 3, 4] rfl (J113b_279 (Option.some.inj h).symm)
                  · replace h := ite_t hc260 h
                    refine V.iload d_La_run_263 4 rfl ?_
                    refine V.bipush (v := 47) d_La_run_265 (by decide) ?_
                    refine V.icmp_eq (tgt := 277) d_La_run_267 (by decide) (fun hc267 => ?_) (fun hc267 => ?_)
                    · replace h := ite_t hc267 h
                      exact V.pick [] rfl (J113b_277 (Option.some.inj h).symm)
                    · replace h := ite_f hc267 h
                      refine V.iload d_La_run_270 4 rfl ?_
                      refine V.bipush (v := 37) d_La_run_272 (by decide) ?_
                      refine V.icmp_ne (tgt := 279) d_La_run_274 (by decide) (fun hc274 => ?_) (fun hc274 => ?_)
                      · replace h := ite_f hc274 h
                        exact V.pick [0, 1, 2, 3, 4] rfl (J113b_279 (Option.some.inj h).symm)
                      · replace h := ite_t hc274 h
                        exact V.pick [] rfl (J113b_277 (Option.some.inj h).symm)
              · replace h := ite_t hc220 h
                exact V.pick [0, 1, 2, 3] rfl (J113b_223 (Option.some.inj h).symm)
            · replace h := ite_t hc147 h
              exact V.pick [0, 1, 2, 3, 4, 5] rfl (J113b_150 (Option.some.inj h).symm)
        · replace h := ite_t hc118 h
          exact V.pick [0, 1] rfl (J113b_121 (Option.some.inj h).symm)
    replace h := h1
    refine V.icmp_ge (tgt := 318) d_La_run_12 (by decide) (fun hc12 => ?_) (fun hc12 => ?_)
    · replace h := ite_t hc12 h
      exact V.pick [] rfl (J12b_318 _ _ (Option.some.inj h).symm)
    · replace h := ite_f hc12 h
      refine V.iload_n d_La_run_15 rfl 2 rfl ?_
      refine V.if_lt (tgt := 318) d_La_run_16 (by decide) (fun hc16 => ?_) (fun hc16 => ?_)
      · replace h := ite_t hc16 h
        exact V.pick [] rfl (J12b_318 _ _ (Option.some.inj h).symm)
      · replace h := ite_f hc16 h
        refine V.iload_n d_La_run_19 rfl 2 rfl ?_
        refine V.iconst (v := 1) d_La_run_20 (by decide) ?_
        refine V.iadd d_La_run_21 ?_
        refine V.sipush (v := 513) d_La_run_22 (by decide) ?_
        refine V.icmp_ge (tgt := 318) d_La_run_25 (by decide) (fun hc25 => ?_) (fun hc25 => ?_)
        · replace h := ite_t hc25 h
          exact V.pick [] rfl (J12b_318 _ _ (Option.some.inj h).symm)
        · replace h := ite_f hc25 h
          refine V.iload_n d_La_run_28 rfl 1 rfl ?_
          refine V.bipush (v := 32) d_La_run_29 (by decide) ?_
          refine V.icmp_ge (tgt := 318) d_La_run_31 (by decide) (fun hc31 => ?_) (fun hc31 => ?_)
          · replace h := ite_t hc31 h
            exact V.pick [] rfl (J12b_318 _ _ (Option.some.inj h).symm)
          · replace h := ite_f hc31 h
            refine V.aload_n d_La_run_34 rfl 0 rfl ?_
            refine V.getR (r := 4) ok_La fl_La_11 (by decide) (by decide) ly_3 rfl d_La_run_35 ?_
            refine V.iload_n d_La_run_38 rfl 2 rfl ?_
            obtain ⟨gq, h⟩ := grd_e h
            refine V.ra (by decide) ly_4 (inb_e gq) rfl d_La_run_39 ?_
            obtain ⟨v40, e_v40, h⟩ := letv_e h
            refine V.topI e_v40 ?_
            refine V.istore (lv' := [(5, .int v40), (0, rf Z 3), (2, .int x2), (3, .int x3), (4, .int x4)]) d_La_run_40 (by decide) rfl ?_
            refine V.aload_n d_La_run_42 rfl 1 rfl ?_
            refine V.getR (r := 4) ok_La fl_La_11 (by decide) (by decide) ly_3 rfl d_La_run_43 ?_
            refine V.iload_n d_La_run_46 rfl 3 rfl ?_
            refine V.iconst (v := 1) d_La_run_47 (by decide) ?_
            refine V.iadd d_La_run_48 ?_
            obtain ⟨gq, h⟩ := grd_e h
            refine V.ra (by decide) ly_4 (inb_e gq) rfl d_La_run_49 ?_
            obtain ⟨v50, e_v50, h⟩ := letv_e h
            refine V.topI e_v50 ?_
            refine V.istore (lv' := [(6, .int v50), (5, .int v40), (0, rf Z 3), (2, .int x2), (3, .int x3), (4, .int x4)]) d_La_run_50 (by decide) rfl ?_
            refine V.iload d_La_run_52 1 rfl ?_
            refine V.iconst (v := 1) d_La_run_54 (by decide) ?_
            refine V.icmp_eq (tgt := 79) d_La_run_55 (by decide) (fun hc55 => ?_) (fun hc55 => ?_)
            · replace h := ite_t hc55 h
              exact V.pick [2, 3, 4, 5, 1, 0] rfl (J12b_79 _ _ (Option.some.inj h).symm)
            · replace h := ite_f hc55 h
              refine V.iload d_La_run_58 1 rfl ?_
              refine V.iconst (v := 2) d_La_run_60 (by decide) ?_
              refine V.icmp_ne (tgt := 112) d_La_run_61 (by decide) (fun hc61 => ?_) (fun hc61 => ?_)
              · replace h := ite_f hc61 h
                exact V.pick [2, 3, 4, 5, 1, 0] rfl (J12b_112 _ _ (Option.some.inj h).symm)
              · replace h := ite_t hc61 h
                refine V.iload d_La_run_64 0 rfl ?_
                refine V.if_lt (tgt := 112) d_La_run_66 (by decide) (fun hc66 => ?_) (fun hc66 => ?_)
                · replace h := ite_t hc66 h
                  exact V.pick [2, 3, 4, 5, 1, 0] rfl (J12b_112 _ _ (Option.some.inj h).symm)
                · replace h := ite_f hc66 h
                  refine V.iload d_La_run_69 0 rfl ?_
                  refine V.aload_n d_La_run_71 rfl 2 rfl ?_
                  refine V.getR (r := 8) ok_La fl_La_31 (by decide) (by decide) ly_3 rfl d_La_run_72 ?_
                  refine V.al (t := 0) (x := 9) (by decide) ly_8 rfl (by decide) d_La_run_75 ?_
                  refine V.icmp_ge (tgt := 112) d_La_run_76 (by decide) (fun hc76 => ?_) (fun hc76 => ?_)
                  · replace h := ite_t hc76 h
                    exact V.pick [2, 3, 4, 5, 1, 0] rfl (J12b_112 _ _ (Option.some.inj h).symm)
                  · replace h := ite_f hc76 h
                    exact V.pick [2, 3, 4, 5, 1, 0] rfl (J12b_79 _ _ (Option.some.inj h).symm)
def f_La_run (N : Nat) (σ : Mem) (a1 : Int32) : Option (Int32 × Mem) :=
  bnd1 (L_La_run_l7 N N 0 a1 0 σ) fun x7_ =>
  sm x7_ (fun r7_ => some r7_) fun σ7_ =>
  some (0, σ7_)
set_option maxHeartbeats 4000000 in
set_option maxRecDepth 20000 in
theorem c_La_run (Z : ZX) {N : Nat} {σ : Mem} {a1 : Int32} {r : Int32} {σ' : Mem} (h : f_La_run N σ a1 = some (r, σ')) : CI Z 1 m_La_run [rf Z 3, .int a1] σ r σ' := by
  refine Ct.of (by decide +kernel) (Nat.le_of_ble_eq_true rfl) (fun Y => ?_)
  show V (mkB Z) Y m_La_run 1 (QP (mkB Z) Y nC 0 0 (fun v t => v = some (.int r) ∧ t = σ')) 0 0 nC σ 0 [(0, rf Z 3), (1, .int a1)] []
  unfold f_La_run at h
  refine V.iconst (v := 0) d_La_run_0 (by decide) ?_
  refine V.istore_n (lv' := [(2, .int 0), (0, rf Z 3), (1, .int a1)]) d_La_run_1 rfl (by decide) rfl ?_
  refine V.iload_n d_La_run_2 rfl 2 rfl ?_
  refine V.istore_n (lv' := [(3, .int a1), (2, .int 0), (0, rf Z 3), (1, .int a1)]) d_La_run_3 rfl (by decide) rfl ?_
  refine V.iconst (v := 0) d_La_run_4 (by decide) ?_
  refine V.istore (lv' := [(4, .int 0), (3, .int a1), (2, .int 0), (0, rf Z 3), (1, .int a1)]) d_La_run_5 (by decide) rfl ?_
  obtain ⟨x7_, h1, h⟩ := bnd1_e h
  refine V.pick [3, 2, 1, 0] rfl (cL_La_run_l7 Z (Good := fun z => x7_ = z) (fun σ7_ he => ?_) (fun r7v r7m he => ?_) N _ _ _ _ _ h1 rfl)
  · rw [he] at h
    replace h := sm_r h
    refine V.iconst (v := 0) d_La_run_318 (by decide) ?_
    cases h
    exact V.iret rfl d_La_run_319 ⟨rfl, rfl⟩
  · rw [he] at h
    replace h := sm_l h
    cases h
    exact ⟨rfl, rfl⟩
abbrev m_La_anyHolds : MI := (⟨"ShadeTown$Law", "anyHolds", "(C)Z"⟩, prog_4_method_15_code, 3, (Option.some Jvm.ClassFile.FieldType.boolean))
theorem d_La_anyHolds_0 : decode prog_4_method_15_code 0 = .ok (.iconst 0, 1) := by decide +kernel
theorem d_La_anyHolds_1 : decode prog_4_method_15_code 1 = .ok (.istore_n 2, 1) := by decide +kernel
theorem d_La_anyHolds_2 : decode prog_4_method_15_code 2 = .ok (.iload_n 2, 1) := by decide +kernel
theorem d_La_anyHolds_3 : decode prog_4_method_15_code 3 = .ok (.aload_n 0, 1) := by decide +kernel
theorem d_La_anyHolds_4 : decode prog_4_method_15_code 4 = .ok (.getfield 28, 3) := by decide +kernel
theorem d_La_anyHolds_10 : decode prog_4_method_15_code 10 = .ok (.aload_n 0, 1) := by decide +kernel
theorem d_La_anyHolds_11 : decode prog_4_method_15_code 11 = .ok (.getfield 19, 3) := by decide +kernel
theorem d_La_anyHolds_14 : decode prog_4_method_15_code 14 = .ok (.iload_n 2, 1) := by decide +kernel
theorem d_La_anyHolds_15 : decode prog_4_method_15_code 15 = .ok (.iaload, 1) := by decide +kernel
theorem d_La_anyHolds_16 : decode prog_4_method_15_code 16 = .ok (.iload_n 1, 1) := by decide +kernel
theorem d_La_anyHolds_20 : decode prog_4_method_15_code 20 = .ok (.aload_n 0, 1) := by decide +kernel
theorem d_La_anyHolds_21 : decode prog_4_method_15_code 21 = .ok (.aload_n 0, 1) := by decide +kernel
theorem d_La_anyHolds_22 : decode prog_4_method_15_code 22 = .ok (.getfield 25, 3) := by decide +kernel
theorem d_La_anyHolds_25 : decode prog_4_method_15_code 25 = .ok (.iload_n 2, 1) := by decide +kernel
theorem d_La_anyHolds_26 : decode prog_4_method_15_code 26 = .ok (.iaload, 1) := by decide +kernel
theorem d_La_anyHolds_27 : decode prog_4_method_15_code 27 = .ok (.invokevirtual 57, 3) := by decide +kernel
theorem k_La_run : MOk m_La_run 1 ∧ IOk m_La_run := ⟨⟨atG 777 (by decide +kernel) rfl, atG 113 (by decide +kernel) rfl, ⟨by decide, by decide⟩, by decide +kernel, by decide⟩, atG 776 (by decide +kernel) rfl, atG 18 (by decide +kernel) rfl⟩
theorem lk_La_57 : Cond.methodLink "ShadeTown$Law" 57 ⟨"ShadeTown$Law", "run", "(I)I"⟩ ∈ tblG := atG 774 (by decide +kernel) rfl
theorem d_La_anyHolds_30 : decode prog_4_method_15_code 30 = .ok (.ifCond .eq 5, 3) := by decide +kernel
theorem d_La_anyHolds_17 : decode prog_4_method_15_code 17 = .ok (.if_icmp .ne 18, 3) := by decide +kernel
theorem d_La_anyHolds_7 : decode prog_4_method_15_code 7 = .ok (.if_icmp .ge 34, 3) := by decide +kernel
theorem d_La_anyHolds_41 : decode prog_4_method_15_code 41 = .ok (.iconst 0, 1) := by decide +kernel
theorem d_La_anyHolds_42 : decode prog_4_method_15_code 42 = .ok (.ireturn, 1) := by decide +kernel
theorem d_La_anyHolds_35 : decode prog_4_method_15_code 35 = .ok (.iinc 2 1, 3) := by decide +kernel
theorem d_La_anyHolds_38 : decode prog_4_method_15_code 38 = .ok (.goto (-36), 3) := by decide +kernel
theorem d_La_anyHolds_33 : decode prog_4_method_15_code 33 = .ok (.iconst 1, 1) := by decide +kernel
theorem d_La_anyHolds_34 : decode prog_4_method_15_code 34 = .ok (.ireturn, 1) := by decide +kernel
def B_La_anyHolds_l2 (N : Nat) (a1 : Int32) (rec : Int32 → Mem → Option (Int32 × Mem)) (x2 : Int32) (σ : Mem) : Option (Int32 × Mem) :=
  bnd1 ((
    if (mI σ 3 5) ≤ x2 then
      (some (0, σ))
    else
      (grd (inb x2 16) <|
      if (mI σ 5 (x2.toNatClampNeg)) = a1 then
        (grd (inb x2 16) <|
        bnd2 (f_La_run N σ (mI σ 7 (x2.toNatClampNeg))) fun r27 σ27 =>
        if r27 = 0 then
          (some (1, σ27))
        else
          (some (2, σ27)))
      else
        (some (1, σ)))) : Option (Nat × Mem)) fun s7b =>
  q2 s7b fun t7b σ7b_ =>
  if t7b = 0 then
    (some (0, σ7b_))
  else
  if t7b = 1 then
    (letv (x2 + 1) fun v35 =>
    rec v35 σ7b_)
  else
  (some (1, σ7b_))
def L_La_anyHolds_l2 (N : Nat) (a1 : Int32) : Nat → Int32 → Mem → Option (Int32 × Mem)
  | 0, _, _ => none
  | k + 1, x2, σ => B_La_anyHolds_l2 N a1 (L_La_anyHolds_l2 N a1 k) x2 σ
set_option maxHeartbeats 4000000 in
set_option maxRecDepth 20000 in
theorem cL_La_anyHolds_l2 (Z : ZX) {Y : YX} {post : Option Value → Mem → Prop} {N : Nat} {a1 : Int32} {Good : Int32 × Mem → Prop} (hR : ∀ (v : Int32) (σr : Mem), Good (v, σr) → post (some (.int v)) σr) : ∀ (k : Nat) (x2 : Int32) (σ : Mem) (res : Int32 × Mem), L_La_anyHolds_l2 N a1 k x2 σ = some res → Good res → V (mkB Z) Y m_La_anyHolds 2 (QP (mkB Z) Y nC 0 0 post) 0 0 nC σ 2 [(0, rf Z 3), (1, .int a1), (2, .int x2)] [] := by
  intro k
  induction k with
  | zero => intro x2 σ res h; cases h
  | succ k ih =>
    intro x2 σ res h hg
    replace h : B_La_anyHolds_l2 N a1 (L_La_anyHolds_l2 N a1 k) x2 σ = some res := h
    unfold B_La_anyHolds_l2 at h
    refine V.iload_n d_La_anyHolds_2 rfl 2 rfl ?_
    refine V.aload_n d_La_anyHolds_3 rfl 0 rfl ?_
    refine V.getI ok_La fl_La_28 (by decide) (by decide) ly_3 rfl d_La_anyHolds_4 ?_
    obtain ⟨s7b, h1, h⟩ := bnd1_e h
    have J7b_41 : ∀ (σ7b_ : Mem), s7b = (0, σ7b_) → V (mkB Z) Y m_La_anyHolds 2 (QP (mkB Z) Y nC 0 0 post) 0 0 nC σ7b_ 41 [] [] := by
      intro σ7b_ he
      rw [he] at h
      replace h := q2_e h
      replace h := ite_t rfl h
      refine V.iconst (v := 0) d_La_anyHolds_41 (by decide) ?_
      cases h
      exact V.zret rfl rfl d_La_anyHolds_42 (hR _ _ hg)
    have J7b_35 : ∀ (σ7b_ : Mem), s7b = (1, σ7b_) → V (mkB Z) Y m_La_anyHolds 2 (QP (mkB Z) Y nC 0 0 post) 0 0 nC σ7b_ 35 [(0, rf Z 3), (1, .int a1), (2, .int x2)] [] := by
      intro σ7b_ he
      rw [he] at h
      replace h := q2_e h
      replace h := ite_f (by decide) h
      replace h := ite_t rfl h
      obtain ⟨v35, e_v35, h⟩ := letv_e h
      refine V.iinc (v := v35) (lv' := [(2, .int v35), (0, rf Z 3), (1, .int a1)]) d_La_anyHolds_35 2 rfl (by rw [e_v35]; rfl) (by decide) rfl ?_
      refine V.goto (tgt := 2) d_La_anyHolds_38 (by decide) ?_
      exact V.pick [1, 2, 0] rfl (ih _ _ _ h hg)
    have J7b_33 : ∀ (σ7b_ : Mem), s7b = (2, σ7b_) → V (mkB Z) Y m_La_anyHolds 2 (QP (mkB Z) Y nC 0 0 post) 0 0 nC σ7b_ 33 [] [] := by
      intro σ7b_ he
      rw [he] at h
      replace h := q2_e h
      replace h := ite_f (by decide) h
      replace h := ite_f (by decide) h
      refine V.iconst (v := 1) d_La_anyHolds_33 (by decide) ?_
      cases h
      exact V.zret rfl rfl d_La_anyHolds_34 (hR _ _ hg)
    replace h := h1
    refine V.icmp_ge (tgt := 41) d_La_anyHolds_7 (by decide) (fun hc7 => ?_) (fun hc7 => ?_)
    · replace h := ite_t hc7 h
      exact V.pick [] rfl (J7b_41 _ (Option.some.inj h).symm)
    · replace h := ite_f hc7 h
      refine V.aload_n d_La_anyHolds_10 rfl 0 rfl ?_
      refine V.getR (r := 5) ok_La fl_La_19 (by decide) (by decide) ly_3 rfl d_La_anyHolds_11 ?_
      refine V.iload_n d_La_anyHolds_14 rfl 2 rfl ?_
      obtain ⟨gq, h⟩ := grd_e h
      refine V.ra (by decide) ly_5 (inb_e gq) rfl d_La_anyHolds_15 ?_
      refine V.iload_n d_La_anyHolds_16 rfl 1 rfl ?_
      refine V.icmp_ne (tgt := 35) d_La_anyHolds_17 (by decide) (fun hc17 => ?_) (fun hc17 => ?_)
      · replace h := ite_f hc17 h
        exact V.pick [0, 1, 2] rfl (J7b_35 _ (Option.some.inj h).symm)
      · replace h := ite_t hc17 h
        refine V.aload_n d_La_anyHolds_20 rfl 0 rfl ?_
        refine V.aload_n d_La_anyHolds_21 rfl 0 rfl ?_
        refine V.getR (r := 7) ok_La fl_La_25 (by decide) (by decide) ly_3 rfl d_La_anyHolds_22 ?_
        refine V.iload_n d_La_anyHolds_25 rfl 2 rfl ?_
        obtain ⟨gq, h⟩ := grd_e h
        refine V.ra (by decide) ly_7 (inb_e gq) rfl d_La_anyHolds_26 ?_
        obtain ⟨r27, σ27, h1, h⟩ := bnd2_e h
        refine V.vI (as := [.int (mI σ 7 (x2.toNatClampNeg))]) (st := []) (c_La_run Z h1) k_La_run lk_La_57 (by decide) rfl (by decide) ly_3 ok_La.1 rfl (Nat.le_of_ble_eq_true rfl) d_La_anyHolds_27 ?_
        refine V.if_eq (tgt := 35) d_La_anyHolds_30 (by decide) (fun hc30 => ?_) (fun hc30 => ?_)
        · replace h := ite_t hc30 h
          exact V.pick [0, 1, 2] rfl (J7b_35 _ (Option.some.inj h).symm)
        · replace h := ite_f hc30 h
          exact V.pick [] rfl (J7b_33 _ (Option.some.inj h).symm)
def f_La_anyHolds (N : Nat) (σ : Mem) (a1 : Int32) : Option (Int32 × Mem) :=
  L_La_anyHolds_l2 N a1 N 0 σ
set_option maxHeartbeats 4000000 in
set_option maxRecDepth 20000 in
theorem c_La_anyHolds (Z : ZX) {N : Nat} {σ : Mem} {a1 : Int32} {r : Int32} {σ' : Mem} (h : f_La_anyHolds N σ a1 = some (r, σ')) : CI Z 2 m_La_anyHolds [rf Z 3, .int a1] σ r σ' := by
  refine Ct.of (by decide +kernel) (Nat.le_of_ble_eq_true rfl) (fun Y => ?_)
  show V (mkB Z) Y m_La_anyHolds 2 (QP (mkB Z) Y nC 0 0 (fun v t => v = some (.int r) ∧ t = σ')) 0 0 nC σ 0 [(0, rf Z 3), (1, .int a1)] []
  unfold f_La_anyHolds at h
  refine V.iconst (v := 0) d_La_anyHolds_0 (by decide) ?_
  refine V.istore_n (lv' := [(2, .int 0), (0, rf Z 3), (1, .int a1)]) d_La_anyHolds_1 rfl (by decide) rfl ?_
  refine V.pick [1, 2, 0] rfl (cL_La_anyHolds_l2 Z (Good := fun z => z = _) (fun r2v r2m he => ?_) N _ _ _ h rfl)
  · cases he
    exact ⟨rfl, rfl⟩
abbrev m_La_valueOf : MI := (⟨"ShadeTown$Law", "valueOf", "(CII)I"⟩, prog_4_method_16_code, 5, (Option.some Jvm.ClassFile.FieldType.int))
theorem d_La_valueOf_0 : decode prog_4_method_16_code 0 = .ok (.iconst 0, 1) := by decide +kernel
theorem d_La_valueOf_1 : decode prog_4_method_16_code 1 = .ok (.istore 4, 2) := by decide +kernel
theorem d_La_valueOf_3 : decode prog_4_method_16_code 3 = .ok (.iload 4, 2) := by decide +kernel
theorem d_La_valueOf_5 : decode prog_4_method_16_code 5 = .ok (.aload_n 0, 1) := by decide +kernel
theorem d_La_valueOf_6 : decode prog_4_method_16_code 6 = .ok (.getfield 28, 3) := by decide +kernel
theorem d_La_valueOf_12 : decode prog_4_method_16_code 12 = .ok (.aload_n 0, 1) := by decide +kernel
theorem d_La_valueOf_13 : decode prog_4_method_16_code 13 = .ok (.getfield 19, 3) := by decide +kernel
theorem d_La_valueOf_16 : decode prog_4_method_16_code 16 = .ok (.iload 4, 2) := by decide +kernel
theorem d_La_valueOf_18 : decode prog_4_method_16_code 18 = .ok (.iaload, 1) := by decide +kernel
theorem d_La_valueOf_19 : decode prog_4_method_16_code 19 = .ok (.iload_n 1, 1) := by decide +kernel
theorem d_La_valueOf_23 : decode prog_4_method_16_code 23 = .ok (.aload_n 0, 1) := by decide +kernel
theorem d_La_valueOf_24 : decode prog_4_method_16_code 24 = .ok (.aload_n 0, 1) := by decide +kernel
theorem d_La_valueOf_25 : decode prog_4_method_16_code 25 = .ok (.getfield 25, 3) := by decide +kernel
theorem d_La_valueOf_28 : decode prog_4_method_16_code 28 = .ok (.iload 4, 2) := by decide +kernel
theorem d_La_valueOf_30 : decode prog_4_method_16_code 30 = .ok (.iaload, 1) := by decide +kernel
theorem d_La_valueOf_31 : decode prog_4_method_16_code 31 = .ok (.invokevirtual 57, 3) := by decide +kernel
theorem d_La_valueOf_34 : decode prog_4_method_16_code 34 = .ok (.ifCond .eq 23, 3) := by decide +kernel
theorem d_La_valueOf_20 : decode prog_4_method_16_code 20 = .ok (.if_icmp .ne 37, 3) := by decide +kernel
theorem d_La_valueOf_9 : decode prog_4_method_16_code 9 = .ok (.if_icmp .ge 54, 3) := by decide +kernel
theorem d_La_valueOf_63 : decode prog_4_method_16_code 63 = .ok (.iconst 0, 1) := by decide +kernel
theorem d_La_valueOf_64 : decode prog_4_method_16_code 64 = .ok (.ireturn, 1) := by decide +kernel
theorem d_La_valueOf_57 : decode prog_4_method_16_code 57 = .ok (.iinc 4 1, 3) := by decide +kernel
theorem d_La_valueOf_60 : decode prog_4_method_16_code 60 = .ok (.goto (-57), 3) := by decide +kernel
theorem d_La_valueOf_37 : decode prog_4_method_16_code 37 = .ok (.iload_n 2, 1) := by decide +kernel
theorem d_La_valueOf_38 : decode prog_4_method_16_code 38 = .ok (.iload_n 3, 1) := by decide +kernel
theorem d_La_valueOf_39 : decode prog_4_method_16_code 39 = .ok (.aload_n 0, 1) := by decide +kernel
theorem d_La_valueOf_40 : decode prog_4_method_16_code 40 = .ok (.aload_n 0, 1) := by decide +kernel
theorem d_La_valueOf_41 : decode prog_4_method_16_code 41 = .ok (.getfield 22, 3) := by decide +kernel
theorem d_La_valueOf_44 : decode prog_4_method_16_code 44 = .ok (.iload 4, 2) := by decide +kernel
theorem d_La_valueOf_46 : decode prog_4_method_16_code 46 = .ok (.iaload, 1) := by decide +kernel
theorem d_La_valueOf_47 : decode prog_4_method_16_code 47 = .ok (.invokevirtual 57, 3) := by decide +kernel
theorem d_La_valueOf_50 : decode prog_4_method_16_code 50 = .ok (.invokestatic 61, 3) := by decide +kernel
theorem lk_La_61 : Cond.methodLink "ShadeTown$Law" 61 ⟨"java/lang/Math", "min", "(II)I"⟩ ∈ tblG := atG 785 (by decide +kernel) rfl
theorem d_La_valueOf_53 : decode prog_4_method_16_code 53 = .ok (.invokestatic 67, 3) := by decide +kernel
theorem lk_La_67 : Cond.methodLink "ShadeTown$Law" 67 ⟨"java/lang/Math", "max", "(II)I"⟩ ∈ tblG := atG 786 (by decide +kernel) rfl
theorem d_La_valueOf_56 : decode prog_4_method_16_code 56 = .ok (.ireturn, 1) := by decide +kernel
def B_La_valueOf_l3 (N : Nat) (a1 : Int32) (a2 : Int32) (a3 : Int32) (rec : Int32 → Mem → Option (Int32 × Mem)) (x4 : Int32) (σ : Mem) : Option (Int32 × Mem) :=
  bnd1 ((
    if (mI σ 3 5) ≤ x4 then
      (some (0, σ))
    else
      (grd (inb x4 16) <|
      if (mI σ 5 (x4.toNatClampNeg)) = a1 then
        (grd (inb x4 16) <|
        bnd2 (f_La_run N σ (mI σ 7 (x4.toNatClampNeg))) fun r31 σ31 =>
        if r31 = 0 then
          (some (1, σ31))
        else
          (some (2, σ31)))
      else
        (some (1, σ)))) : Option (Nat × Mem)) fun s9b =>
  q2 s9b fun t9b σ9b_ =>
  if t9b = 0 then
    (some (0, σ9b_))
  else
  if t9b = 1 then
    (letv (x4 + 1) fun v57 =>
    rec v57 σ9b_)
  else
  (grd (inb x4 16) <|
  bnd2 (f_La_run N σ9b_ (mI σ9b_ 6 (x4.toNatClampNeg))) fun r47 σ47 =>
  bnd1 (f_JM_min_7cf53 a3 r47) fun r50 =>
  bnd1 (f_JM_max_7cf53 a2 r50) fun r53 =>
  some (r53, σ47))
def L_La_valueOf_l3 (N : Nat) (a1 : Int32) (a2 : Int32) (a3 : Int32) : Nat → Int32 → Mem → Option (Int32 × Mem)
  | 0, _, _ => none
  | k + 1, x4, σ => B_La_valueOf_l3 N a1 a2 a3 (L_La_valueOf_l3 N a1 a2 a3 k) x4 σ
set_option maxHeartbeats 4000000 in
set_option maxRecDepth 20000 in
theorem cL_La_valueOf_l3 (Z : ZX) {Y : YX} {post : Option Value → Mem → Prop} {N : Nat} {a1 : Int32} {a2 : Int32} {a3 : Int32} {Good : Int32 × Mem → Prop} (hR : ∀ (v : Int32) (σr : Mem), Good (v, σr) → post (some (.int v)) σr) : ∀ (k : Nat) (x4 : Int32) (σ : Mem) (res : Int32 × Mem), L_La_valueOf_l3 N a1 a2 a3 k x4 σ = some res → Good res → V (mkB Z) Y m_La_valueOf 2 (QP (mkB Z) Y nC 0 0 post) 0 0 nC σ 3 [(0, rf Z 3), (1, .int a1), (2, .int a2), (3, .int a3), (4, .int x4)] [] := by
  intro k
  induction k with
  | zero => intro x4 σ res h; cases h
  | succ k ih =>
    intro x4 σ res h hg
    replace h : B_La_valueOf_l3 N a1 a2 a3 (L_La_valueOf_l3 N a1 a2 a3 k) x4 σ = some res := h
    unfold B_La_valueOf_l3 at h
    refine V.iload d_La_valueOf_3 4 rfl ?_
    refine V.aload_n d_La_valueOf_5 rfl 0 rfl ?_
    refine V.getI ok_La fl_La_28 (by decide) (by decide) ly_3 rfl d_La_valueOf_6 ?_
    obtain ⟨s9b, h1, h⟩ := bnd1_e h
    have J9b_63 : ∀ (σ9b_ : Mem), s9b = (0, σ9b_) → V (mkB Z) Y m_La_valueOf 2 (QP (mkB Z) Y nC 0 0 post) 0 0 nC σ9b_ 63 [] [] := by
      intro σ9b_ he
      rw [he] at h
      replace h := q2_e h
      replace h := ite_t rfl h
      refine V.iconst (v := 0) d_La_valueOf_63 (by decide) ?_
      cases h
      exact V.iret rfl d_La_valueOf_64 (hR _ _ hg)
    have J9b_57 : ∀ (σ9b_ : Mem), s9b = (1, σ9b_) → V (mkB Z) Y m_La_valueOf 2 (QP (mkB Z) Y nC 0 0 post) 0 0 nC σ9b_ 57 [(0, rf Z 3), (1, .int a1), (2, .int a2), (3, .int a3), (4, .int x4)] [] := by
      intro σ9b_ he
      rw [he] at h
      replace h := q2_e h
      replace h := ite_f (by decide) h
      replace h := ite_t rfl h
      obtain ⟨v57, e_v57, h⟩ := letv_e h
      refine V.iinc (v := v57) (lv' := [(4, .int v57), (0, rf Z 3), (1, .int a1), (2, .int a2), (3, .int a3)]) d_La_valueOf_57 4 rfl (by rw [e_v57]; rfl) (by decide) rfl ?_
      refine V.goto (tgt := 3) d_La_valueOf_60 (by decide) ?_
      exact V.pick [1, 2, 3, 4, 0] rfl (ih _ _ _ h hg)
    have J9b_37 : ∀ (σ9b_ : Mem), s9b = (2, σ9b_) → V (mkB Z) Y m_La_valueOf 2 (QP (mkB Z) Y nC 0 0 post) 0 0 nC σ9b_ 37 [(0, rf Z 3), (2, .int a2), (3, .int a3), (4, .int x4)] [] := by
      intro σ9b_ he
      rw [he] at h
      replace h := q2_e h
      replace h := ite_f (by decide) h
      replace h := ite_f (by decide) h
      refine V.iload_n d_La_valueOf_37 rfl 1 rfl ?_
      refine V.iload_n d_La_valueOf_38 rfl 2 rfl ?_
      refine V.aload_n d_La_valueOf_39 rfl 0 rfl ?_
      refine V.aload_n d_La_valueOf_40 rfl 0 rfl ?_
      refine V.getR (r := 6) ok_La fl_La_22 (by decide) (by decide) ly_3 rfl d_La_valueOf_41 ?_
      refine V.iload d_La_valueOf_44 3 rfl ?_
      obtain ⟨gq, h⟩ := grd_e h
      refine V.ra (by decide) ly_6 (inb_e gq) rfl d_La_valueOf_46 ?_
      obtain ⟨r47, σ47, h1, h⟩ := bnd2_e h
      refine V.vI (as := [.int (mI σ9b_ 6 (x4.toNatClampNeg))]) (st := [.int a3, .int a2]) (c_La_run Z h1) k_La_run lk_La_57 (by decide) rfl (by decide) ly_3 ok_La.1 rfl (Nat.le_of_ble_eq_true rfl) d_La_valueOf_47 ?_
      obtain ⟨r50, h1, h⟩ := bnd1_e h
      refine V.sI (as := [.int a3, .int r47]) (st := [.int a2]) (c_JM_min_7cf53 Z h1) k_JM_min_7cf53 lk_La_61 (by decide) rfl rfl (Nat.le_of_ble_eq_true rfl) d_La_valueOf_50 ?_
      obtain ⟨r53, h1, h⟩ := bnd1_e h
      refine V.sI (as := [.int a2, .int r50]) (st := []) (c_JM_max_7cf53 Z h1) k_JM_max_7cf53 lk_La_67 (by decide) rfl rfl (Nat.le_of_ble_eq_true rfl) d_La_valueOf_53 ?_
      cases h
      exact V.iret rfl d_La_valueOf_56 (hR _ _ hg)
    replace h := h1
    refine V.icmp_ge (tgt := 63) d_La_valueOf_9 (by decide) (fun hc9 => ?_) (fun hc9 => ?_)
    · replace h := ite_t hc9 h
      exact V.pick [] rfl (J9b_63 _ (Option.some.inj h).symm)
    · replace h := ite_f hc9 h
      refine V.aload_n d_La_valueOf_12 rfl 0 rfl ?_
      refine V.getR (r := 5) ok_La fl_La_19 (by decide) (by decide) ly_3 rfl d_La_valueOf_13 ?_
      refine V.iload d_La_valueOf_16 4 rfl ?_
      obtain ⟨gq, h⟩ := grd_e h
      refine V.ra (by decide) ly_5 (inb_e gq) rfl d_La_valueOf_18 ?_
      refine V.iload_n d_La_valueOf_19 rfl 1 rfl ?_
      refine V.icmp_ne (tgt := 57) d_La_valueOf_20 (by decide) (fun hc20 => ?_) (fun hc20 => ?_)
      · replace h := ite_f hc20 h
        exact V.pick [0, 1, 2, 3, 4] rfl (J9b_57 _ (Option.some.inj h).symm)
      · replace h := ite_t hc20 h
        refine V.aload_n d_La_valueOf_23 rfl 0 rfl ?_
        refine V.aload_n d_La_valueOf_24 rfl 0 rfl ?_
        refine V.getR (r := 7) ok_La fl_La_25 (by decide) (by decide) ly_3 rfl d_La_valueOf_25 ?_
        refine V.iload d_La_valueOf_28 4 rfl ?_
        obtain ⟨gq, h⟩ := grd_e h
        refine V.ra (by decide) ly_7 (inb_e gq) rfl d_La_valueOf_30 ?_
        obtain ⟨r31, σ31, h1, h⟩ := bnd2_e h
        refine V.vI (as := [.int (mI σ 7 (x4.toNatClampNeg))]) (st := []) (c_La_run Z h1) k_La_run lk_La_57 (by decide) rfl (by decide) ly_3 ok_La.1 rfl (Nat.le_of_ble_eq_true rfl) d_La_valueOf_31 ?_
        refine V.if_eq (tgt := 57) d_La_valueOf_34 (by decide) (fun hc34 => ?_) (fun hc34 => ?_)
        · replace h := ite_t hc34 h
          exact V.pick [0, 1, 2, 3, 4] rfl (J9b_57 _ (Option.some.inj h).symm)
        · replace h := ite_f hc34 h
          exact V.pick [0, 2, 3, 4] rfl (J9b_37 _ (Option.some.inj h).symm)
def f_La_valueOf (N : Nat) (σ : Mem) (a1 : Int32) (a2 : Int32) (a3 : Int32) : Option (Int32 × Mem) :=
  L_La_valueOf_l3 N a1 a2 a3 N 0 σ
set_option maxHeartbeats 4000000 in
set_option maxRecDepth 20000 in
theorem c_La_valueOf (Z : ZX) {N : Nat} {σ : Mem} {a1 : Int32} {a2 : Int32} {a3 : Int32} {r : Int32} {σ' : Mem} (h : f_La_valueOf N σ a1 a2 a3 = some (r, σ')) : CI Z 2 m_La_valueOf [rf Z 3, .int a1, .int a2, .int a3] σ r σ' := by
  refine Ct.of (by decide +kernel) (Nat.le_of_ble_eq_true rfl) (fun Y => ?_)
  show V (mkB Z) Y m_La_valueOf 2 (QP (mkB Z) Y nC 0 0 (fun v t => v = some (.int r) ∧ t = σ')) 0 0 nC σ 0 [(0, rf Z 3), (1, .int a1), (2, .int a2), (3, .int a3)] []
  unfold f_La_valueOf at h
  refine V.iconst (v := 0) d_La_valueOf_0 (by decide) ?_
  refine V.istore (lv' := [(4, .int 0), (0, rf Z 3), (1, .int a1), (2, .int a2), (3, .int a3)]) d_La_valueOf_1 (by decide) rfl ?_
  refine V.pick [1, 2, 3, 4, 0] rfl (cL_La_valueOf_l3 Z (Good := fun z => z = _) (fun r3v r3m he => ?_) N _ _ _ h rfl)
  · cases he
    exact ⟨rfl, rfl⟩
abbrev m_Da_knowSky : MI := (⟨"ShadeTown$Day", "knowSky", "()V"⟩, prog_3_method_23_code, 2, (Option.none : Option Jvm.ClassFile.FieldType))
theorem d_Da_knowSky_0 : decode prog_3_method_23_code 0 = .ok (.iconst 0, 1) := by decide +kernel
theorem d_Da_knowSky_1 : decode prog_3_method_23_code 1 = .ok (.istore_n 1, 1) := by decide +kernel
theorem d_Da_knowSky_2 : decode prog_3_method_23_code 2 = .ok (.iload_n 1, 1) := by decide +kernel
theorem d_Da_knowSky_3 : decode prog_3_method_23_code 3 = .ok (.bipush 24, 2) := by decide +kernel
theorem d_Da_knowSky_100 : decode prog_3_method_23_code 100 = .ok (.aload_n 0, 1) := by decide +kernel
theorem d_Da_knowSky_101 : decode prog_3_method_23_code 101 = .ok (.iconst 1, 1) := by decide +kernel
theorem d_Da_knowSky_102 : decode prog_3_method_23_code 102 = .ok (.putfield 25, 3) := by decide +kernel
theorem d_Da_knowSky_105 : decode prog_3_method_23_code 105 = .ok (.return_, 1) := by decide +kernel
theorem d_Da_knowSky_8 : decode prog_3_method_23_code 8 = .ok (.aload_n 0, 1) := by decide +kernel
theorem fl_Da_45 : FL "ShadeTown$Day" 45 T_Da 1 := atG 273 (by decide +kernel) rfl
theorem d_Da_knowSky_9 : decode prog_3_method_23_code 9 = .ok (.getfield 45, 3) := by decide +kernel
theorem d_Da_knowSky_12 : decode prog_3_method_23_code 12 = .ok (.iload_n 1, 1) := by decide +kernel
theorem d_Da_knowSky_13 : decode prog_3_method_23_code 13 = .ok (.aload_n 0, 1) := by decide +kernel
theorem fl_Da_41 : FL "ShadeTown$Day" 41 T_Da 0 := atG 272 (by decide +kernel) rfl
theorem d_Da_knowSky_14 : decode prog_3_method_23_code 14 = .ok (.getfield 41, 3) := by decide +kernel
theorem fl_Da_74 : FL "ShadeTown$Day" 74 T_To 8 := atG 241 (by decide +kernel) rfl
theorem d_Da_knowSky_17 : decode prog_3_method_23_code 17 = .ok (.getfield 74, 3) := by decide +kernel
theorem d_Da_knowSky_20 : decode prog_3_method_23_code 20 = .ok (.invokevirtual 80, 3) := by decide +kernel
theorem k_La_askHour : MOk m_La_askHour 2 ∧ IOk m_La_askHour := ⟨⟨atG 766 (by decide +kernel) rfl, atG 113 (by decide +kernel) rfl, ⟨by decide, by decide⟩, by decide +kernel, by decide⟩, atG 764 (by decide +kernel) rfl, atG 765 (by decide +kernel) rfl⟩
theorem lk_Da_80 : Cond.methodLink "ShadeTown$Day" 80 ⟨"ShadeTown$Law", "askHour", "(II)V"⟩ ∈ tblG := atG 763 (by decide +kernel) rfl
theorem d_Da_knowSky_23 : decode prog_3_method_23_code 23 = .ok (.aload_n 0, 1) := by decide +kernel
theorem fl_Da_9 : FL "ShadeTown$Day" 9 T_Da 2 := atG 274 (by decide +kernel) rfl
theorem d_Da_knowSky_24 : decode prog_3_method_23_code 24 = .ok (.getfield 9, 3) := by decide +kernel
theorem d_Da_knowSky_27 : decode prog_3_method_23_code 27 = .ok (.iload_n 1, 1) := by decide +kernel
theorem d_Da_knowSky_28 : decode prog_3_method_23_code 28 = .ok (.aload_n 0, 1) := by decide +kernel
theorem d_Da_knowSky_29 : decode prog_3_method_23_code 29 = .ok (.getfield 45, 3) := by decide +kernel
theorem d_Da_knowSky_32 : decode prog_3_method_23_code 32 = .ok (.bipush 117, 2) := by decide +kernel
theorem d_Da_knowSky_34 : decode prog_3_method_23_code 34 = .ok (.invokevirtual 118, 3) := by decide +kernel
theorem k_La_anyHolds : MOk m_La_anyHolds 1 ∧ IOk m_La_anyHolds := ⟨⟨atG 773 (by decide +kernel) rfl, atG 113 (by decide +kernel) rfl, ⟨by decide, by decide⟩, by decide +kernel, by decide⟩, atG 771 (by decide +kernel) rfl, atG 772 (by decide +kernel) rfl⟩
theorem lk_Da_118 : Cond.methodLink "ShadeTown$Day" 118 ⟨"ShadeTown$Law", "anyHolds", "(C)Z"⟩ ∈ tblG := atG 770 (by decide +kernel) rfl
theorem d_Da_knowSky_37 : decode prog_3_method_23_code 37 = .ok (.bastore, 1) := by decide +kernel
theorem d_Da_knowSky_38 : decode prog_3_method_23_code 38 = .ok (.aload_n 0, 1) := by decide +kernel
theorem fl_Da_15 : FL "ShadeTown$Day" 15 T_Da 3 := atG 275 (by decide +kernel) rfl
theorem d_Da_knowSky_39 : decode prog_3_method_23_code 39 = .ok (.getfield 15, 3) := by decide +kernel
theorem d_Da_knowSky_42 : decode prog_3_method_23_code 42 = .ok (.iload_n 1, 1) := by decide +kernel
theorem d_Da_knowSky_43 : decode prog_3_method_23_code 43 = .ok (.aload_n 0, 1) := by decide +kernel
theorem d_Da_knowSky_44 : decode prog_3_method_23_code 44 = .ok (.getfield 45, 3) := by decide +kernel
theorem d_Da_knowSky_47 : decode prog_3_method_23_code 47 = .ok (.bipush 101, 2) := by decide +kernel
theorem d_Da_knowSky_49 : decode prog_3_method_23_code 49 = .ok (.bipush (-9), 2) := by decide +kernel
theorem d_Da_knowSky_51 : decode prog_3_method_23_code 51 = .ok (.bipush 9, 2) := by decide +kernel
theorem d_Da_knowSky_53 : decode prog_3_method_23_code 53 = .ok (.invokevirtual 90, 3) := by decide +kernel
theorem k_La_valueOf : MOk m_La_valueOf 3 ∧ IOk m_La_valueOf := ⟨⟨atG 784 (by decide +kernel) rfl, atG 113 (by decide +kernel) rfl, ⟨by decide, by decide⟩, by decide +kernel, by decide⟩, atG 782 (by decide +kernel) rfl, atG 783 (by decide +kernel) rfl⟩
theorem lk_Da_90 : Cond.methodLink "ShadeTown$Day" 90 ⟨"ShadeTown$Law", "valueOf", "(CII)I"⟩ ∈ tblG := atG 781 (by decide +kernel) rfl
theorem d_Da_knowSky_56 : decode prog_3_method_23_code 56 = .ok (.iastore, 1) := by decide +kernel
theorem d_Da_knowSky_57 : decode prog_3_method_23_code 57 = .ok (.aload_n 0, 1) := by decide +kernel
theorem fl_Da_19 : FL "ShadeTown$Day" 19 T_Da 4 := atG 276 (by decide +kernel) rfl
theorem d_Da_knowSky_58 : decode prog_3_method_23_code 58 = .ok (.getfield 19, 3) := by decide +kernel
theorem d_Da_knowSky_61 : decode prog_3_method_23_code 61 = .ok (.iload_n 1, 1) := by decide +kernel
theorem d_Da_knowSky_62 : decode prog_3_method_23_code 62 = .ok (.aload_n 0, 1) := by decide +kernel
theorem d_Da_knowSky_63 : decode prog_3_method_23_code 63 = .ok (.getfield 45, 3) := by decide +kernel
theorem d_Da_knowSky_66 : decode prog_3_method_23_code 66 = .ok (.bipush 110, 2) := by decide +kernel
theorem d_Da_knowSky_68 : decode prog_3_method_23_code 68 = .ok (.bipush (-9), 2) := by decide +kernel
theorem d_Da_knowSky_70 : decode prog_3_method_23_code 70 = .ok (.bipush 9, 2) := by decide +kernel
theorem d_Da_knowSky_72 : decode prog_3_method_23_code 72 = .ok (.invokevirtual 90, 3) := by decide +kernel
theorem d_Da_knowSky_75 : decode prog_3_method_23_code 75 = .ok (.iastore, 1) := by decide +kernel
theorem d_Da_knowSky_76 : decode prog_3_method_23_code 76 = .ok (.aload_n 0, 1) := by decide +kernel
theorem fl_Da_22 : FL "ShadeTown$Day" 22 T_Da 5 := atG 277 (by decide +kernel) rfl
theorem d_Da_knowSky_77 : decode prog_3_method_23_code 77 = .ok (.getfield 22, 3) := by decide +kernel
theorem d_Da_knowSky_80 : decode prog_3_method_23_code 80 = .ok (.iload_n 1, 1) := by decide +kernel
theorem d_Da_knowSky_81 : decode prog_3_method_23_code 81 = .ok (.aload_n 0, 1) := by decide +kernel
theorem d_Da_knowSky_82 : decode prog_3_method_23_code 82 = .ok (.getfield 45, 3) := by decide +kernel
theorem d_Da_knowSky_85 : decode prog_3_method_23_code 85 = .ok (.bipush 99, 2) := by decide +kernel
theorem d_Da_knowSky_87 : decode prog_3_method_23_code 87 = .ok (.iconst 0, 1) := by decide +kernel
theorem d_Da_knowSky_88 : decode prog_3_method_23_code 88 = .ok (.bipush 10, 2) := by decide +kernel
theorem d_Da_knowSky_90 : decode prog_3_method_23_code 90 = .ok (.invokevirtual 90, 3) := by decide +kernel
theorem d_Da_knowSky_93 : decode prog_3_method_23_code 93 = .ok (.iastore, 1) := by decide +kernel
theorem d_Da_knowSky_94 : decode prog_3_method_23_code 94 = .ok (.iinc 1 1, 3) := by decide +kernel
theorem d_Da_knowSky_97 : decode prog_3_method_23_code 97 = .ok (.goto (-95), 3) := by decide +kernel
theorem d_Da_knowSky_5 : decode prog_3_method_23_code 5 = .ok (.if_icmp .ge 95, 3) := by decide +kernel
def B_Da_knowSky_l2 (N : Nat) (rec : Int32 → Mem → Option (Mem)) (x1 : Int32) (σ : Mem) : Option (Mem) :=
  if 24 ≤ x1 then
    (letv (sI σ 33 6 1) fun σ102 =>
    some σ102)
  else
    (bnd1 (f_La_askHour N σ x1 (mI σ 19 8)) fun σ20 =>
    bnd2 (f_La_anyHolds N σ20 117) fun r34 σ34 =>
    grd (inb x1 24) <|
    letv (sI σ34 34 (x1.toNatClampNeg) (r34 &&& 1)) fun σ37 =>
    bnd2 (f_La_valueOf N σ37 101 (-9) 9) fun r53 σ53 =>
    grd (inb x1 24) <|
    letv (sI σ53 35 (x1.toNatClampNeg) r53) fun σ56 =>
    bnd2 (f_La_valueOf N σ56 110 (-9) 9) fun r72 σ72 =>
    grd (inb x1 24) <|
    letv (sI σ72 36 (x1.toNatClampNeg) r72) fun σ75 =>
    bnd2 (f_La_valueOf N σ75 99 0 10) fun r90 σ90 =>
    grd (inb x1 24) <|
    letv (sI σ90 37 (x1.toNatClampNeg) r90) fun σ93 =>
    letv (x1 + 1) fun v94 =>
    rec v94 σ93)
def L_Da_knowSky_l2 (N : Nat) : Nat → Int32 → Mem → Option (Mem)
  | 0, _, _ => none
  | k + 1, x1, σ => B_Da_knowSky_l2 N (L_Da_knowSky_l2 N k) x1 σ
set_option maxHeartbeats 4000000 in
set_option maxRecDepth 20000 in
theorem cL_Da_knowSky_l2 (Z : ZX) {Y : YX} {post : Option Value → Mem → Prop} {N : Nat} {Good : Mem → Prop} (hR : ∀ (σr : Mem), Good σr → post none σr) : ∀ (k : Nat) (x1 : Int32) (σ : Mem) (res : Mem), L_Da_knowSky_l2 N k x1 σ = some res → Good res → V (mkB Z) Y m_Da_knowSky 3 (QP (mkB Z) Y nC 0 0 post) 0 0 nC σ 2 [(0, rf Z 33), (1, .int x1)] [] := by
  intro k
  induction k with
  | zero => intro x1 σ res h; cases h
  | succ k ih =>
    intro x1 σ res h hg
    replace h : B_Da_knowSky_l2 N (L_Da_knowSky_l2 N k) x1 σ = some res := h
    unfold B_Da_knowSky_l2 at h
    refine V.iload_n d_Da_knowSky_2 rfl 1 rfl ?_
    refine V.bipush (v := 24) d_Da_knowSky_3 (by decide) ?_
    refine V.icmp_ge (tgt := 100) d_Da_knowSky_5 (by decide) (fun hc5 => ?_) (fun hc5 => ?_)
    · replace h := ite_t hc5 h
      refine V.aload_n d_Da_knowSky_100 rfl 0 rfl ?_
      refine V.iconst (v := 1) d_Da_knowSky_101 (by decide) ?_
      obtain ⟨σ102, e_σ102, h⟩ := letv_e h
      refine V.putI ok_Da fl_Da_25 (by decide) (by decide) ly_33 rfl rfl rfl rfl d_Da_knowSky_102 (V.mem e_σ102 ?_)
      cases h
      exact V.vret rfl d_Da_knowSky_105 (hR _ hg)
    · replace h := ite_f hc5 h
      refine V.aload_n d_Da_knowSky_8 rfl 0 rfl ?_
      refine V.getR (r := 3) ok_Da fl_Da_45 (by decide) (by decide) ly_33 rfl d_Da_knowSky_9 ?_
      refine V.iload_n d_Da_knowSky_12 rfl 1 rfl ?_
      refine V.aload_n d_Da_knowSky_13 rfl 0 rfl ?_
      refine V.getR (r := 19) ok_Da fl_Da_41 (by decide) (by decide) ly_33 rfl d_Da_knowSky_14 ?_
      refine V.getI ok_To fl_Da_74 (by decide) (by decide) ly_19 rfl d_Da_knowSky_17 ?_
      obtain ⟨σ20, h1, h⟩ := bnd1_e h
      refine V.vN (as := [.int x1, .int (mI σ 19 8)]) (st := []) (c_La_askHour Z h1) k_La_askHour lk_Da_80 (by decide) rfl (by decide) ly_3 ok_La.1 rfl (Nat.le_of_ble_eq_true rfl) d_Da_knowSky_20 ?_
      refine V.aload_n d_Da_knowSky_23 rfl 0 rfl ?_
      refine V.getR (r := 34) ok_Da fl_Da_9 (by decide) (by decide) ly_33 rfl d_Da_knowSky_24 ?_
      refine V.iload_n d_Da_knowSky_27 rfl 1 rfl ?_
      refine V.aload_n d_Da_knowSky_28 rfl 0 rfl ?_
      refine V.getR (r := 3) ok_Da fl_Da_45 (by decide) (by decide) ly_33 rfl d_Da_knowSky_29 ?_
      refine V.bipush (v := 117) d_Da_knowSky_32 (by decide) ?_
      obtain ⟨r34, σ34, h1, h⟩ := bnd2_e h
      refine V.vI (as := [.int 117]) (st := [.int x1, rf Z 34]) (c_La_anyHolds Z h1) k_La_anyHolds lk_Da_118 (by decide) rfl (by decide) ly_3 ok_La.1 rfl (Nat.le_of_ble_eq_true rfl) d_Da_knowSky_34 ?_
      obtain ⟨gq, h⟩ := grd_e h
      obtain ⟨σ37, e_σ37, h⟩ := letv_e h
      refine V.wz (by decide) ly_34 (inb_e gq) rfl d_Da_knowSky_37 e_σ37 ?_
      refine V.aload_n d_Da_knowSky_38 rfl 0 rfl ?_
      refine V.getR (r := 35) ok_Da fl_Da_15 (by decide) (by decide) ly_33 rfl d_Da_knowSky_39 ?_
      refine V.iload_n d_Da_knowSky_42 rfl 1 rfl ?_
      refine V.aload_n d_Da_knowSky_43 rfl 0 rfl ?_
      refine V.getR (r := 3) ok_Da fl_Da_45 (by decide) (by decide) ly_33 rfl d_Da_knowSky_44 ?_
      refine V.bipush (v := 101) d_Da_knowSky_47 (by decide) ?_
      refine V.bipush (v := (-9)) d_Da_knowSky_49 (by decide) ?_
      refine V.bipush (v := 9) d_Da_knowSky_51 (by decide) ?_
      obtain ⟨r53, σ53, h1, h⟩ := bnd2_e h
      refine V.vI (as := [.int 101, .int (-9), .int 9]) (st := [.int x1, rf Z 35]) (c_La_valueOf Z h1) k_La_valueOf lk_Da_90 (by decide) rfl (by decide) ly_3 ok_La.1 rfl (Nat.le_of_ble_eq_true rfl) d_Da_knowSky_53 ?_
      obtain ⟨gq, h⟩ := grd_e h
      obtain ⟨σ56, e_σ56, h⟩ := letv_e h
      refine V.wa (by decide) ly_35 (inb_e gq) rfl d_Da_knowSky_56 e_σ56 ?_
      refine V.aload_n d_Da_knowSky_57 rfl 0 rfl ?_
      refine V.getR (r := 36) ok_Da fl_Da_19 (by decide) (by decide) ly_33 rfl d_Da_knowSky_58 ?_
      refine V.iload_n d_Da_knowSky_61 rfl 1 rfl ?_
      refine V.aload_n d_Da_knowSky_62 rfl 0 rfl ?_
      refine V.getR (r := 3) ok_Da fl_Da_45 (by decide) (by decide) ly_33 rfl d_Da_knowSky_63 ?_
      refine V.bipush (v := 110) d_Da_knowSky_66 (by decide) ?_
      refine V.bipush (v := (-9)) d_Da_knowSky_68 (by decide) ?_
      refine V.bipush (v := 9) d_Da_knowSky_70 (by decide) ?_
      obtain ⟨r72, σ72, h1, h⟩ := bnd2_e h
      refine V.vI (as := [.int 110, .int (-9), .int 9]) (st := [.int x1, rf Z 36]) (c_La_valueOf Z h1) k_La_valueOf lk_Da_90 (by decide) rfl (by decide) ly_3 ok_La.1 rfl (Nat.le_of_ble_eq_true rfl) d_Da_knowSky_72 ?_
      obtain ⟨gq, h⟩ := grd_e h
      obtain ⟨σ75, e_σ75, h⟩ := letv_e h
      refine V.wa (by decide) ly_36 (inb_e gq) rfl d_Da_knowSky_75 e_σ75 ?_
      refine V.aload_n d_Da_knowSky_76 rfl 0 rfl ?_
      refine V.getR (r := 37) ok_Da fl_Da_22 (by decide) (by decide) ly_33 rfl d_Da_knowSky_77 ?_
      refine V.iload_n d_Da_knowSky_80 rfl 1 rfl ?_
      refine V.aload_n d_Da_knowSky_81 rfl 0 rfl ?_
      refine V.getR (r := 3) ok_Da fl_Da_45 (by decide) (by decide) ly_33 rfl d_Da_knowSky_82 ?_
      refine V.bipush (v := 99) d_Da_knowSky_85 (by decide) ?_
      refine V.iconst (v := 0) d_Da_knowSky_87 (by decide) ?_
      refine V.bipush (v := 10) d_Da_knowSky_88 (by decide) ?_
      obtain ⟨r90, σ90, h1, h⟩ := bnd2_e h
      refine V.vI (as := [.int 99, .int 0, .int 10]) (st := [.int x1, rf Z 37]) (c_La_valueOf Z h1) k_La_valueOf lk_Da_90 (by decide) rfl (by decide) ly_3 ok_La.1 rfl (Nat.le_of_ble_eq_true rfl) d_Da_knowSky_90 ?_
      obtain ⟨gq, h⟩ := grd_e h
      obtain ⟨σ93, e_σ93, h⟩ := letv_e h
      refine V.wa (by decide) ly_37 (inb_e gq) rfl d_Da_knowSky_93 e_σ93 ?_
      obtain ⟨v94, e_v94, h⟩ := letv_e h
      refine V.iinc (v := v94) (lv' := [(1, .int v94), (0, rf Z 33)]) d_Da_knowSky_94 1 rfl (by rw [e_v94]; rfl) (by decide) rfl ?_
      refine V.goto (tgt := 2) d_Da_knowSky_97 (by decide) ?_
      exact V.pick [1, 0] rfl (ih _ _ _ h hg)
def f_Da_knowSky (N : Nat) (σ : Mem) : Option (Mem) :=
  L_Da_knowSky_l2 N N 0 σ
set_option maxHeartbeats 4000000 in
set_option maxRecDepth 20000 in
theorem c_Da_knowSky (Z : ZX) {N : Nat} {σ : Mem} {σ' : Mem} (h : f_Da_knowSky N σ = some σ') : CN Z 3 m_Da_knowSky [rf Z 33] σ σ' := by
  refine Ct.of (by decide +kernel) (Nat.le_of_ble_eq_true rfl) (fun Y => ?_)
  show V (mkB Z) Y m_Da_knowSky 3 (QP (mkB Z) Y nC 0 0 (fun v t => v = none ∧ t = σ')) 0 0 nC σ 0 [(0, rf Z 33)] []
  unfold f_Da_knowSky at h
  refine V.iconst (v := 0) d_Da_knowSky_0 (by decide) ?_
  refine V.istore_n (lv' := [(1, .int 0), (0, rf Z 33)]) d_Da_knowSky_1 rfl (by decide) rfl ?_
  refine V.pick [1, 0] rfl (cL_Da_knowSky_l2 Z (Good := fun z => z = _) (fun r2m he => ?_) N _ _ _ h rfl)
  · cases he
    exact ⟨rfl, rfl⟩
abbrev m_Da_mark : MI := (⟨"ShadeTown$Day", "mark", "(II[III)V"⟩, prog_3_method_26_code, 5, (Option.none : Option Jvm.ClassFile.FieldType))
theorem d_Da_mark_0 : decode prog_3_method_26_code 0 = .ok (.iload_n 0, 1) := by decide +kernel
theorem d_Da_mark_1 : decode prog_3_method_26_code 1 = .ok (.iload_n 1, 1) := by decide +kernel
theorem d_Da_mark_2 : decode prog_3_method_26_code 2 = .ok (.invokestatic 164, 3) := by decide +kernel
theorem ln_Da_164 : Cond.methodLinkNest "ShadeTown$Day" 164 ⟨"ShadeTown", "inTown", "(II)Z"⟩ "ShadeTown" ∈ nestW := List.mem_of_getElem? (i := 10) rfl
theorem d_Da_mark_23 : decode prog_3_method_26_code 23 = .ok (.return_, 1) := by decide +kernel
theorem d_Da_mark_8 : decode prog_3_method_26_code 8 = .ok (.aload_n 2, 1) := by decide +kernel
theorem d_Da_mark_9 : decode prog_3_method_26_code 9 = .ok (.iload_n 3, 1) := by decide +kernel
theorem d_Da_mark_10 : decode prog_3_method_26_code 10 = .ok (.bipush 12, 2) := by decide +kernel
theorem d_Da_mark_12 : decode prog_3_method_26_code 12 = .ok (.iload_n 1, 1) := by decide +kernel
theorem d_Da_mark_13 : decode prog_3_method_26_code 13 = .ok (.imul, 1) := by decide +kernel
theorem d_Da_mark_14 : decode prog_3_method_26_code 14 = .ok (.iadd, 1) := by decide +kernel
theorem d_Da_mark_15 : decode prog_3_method_26_code 15 = .ok (.iload_n 0, 1) := by decide +kernel
theorem d_Da_mark_16 : decode prog_3_method_26_code 16 = .ok (.iadd, 1) := by decide +kernel
theorem d_Da_mark_17 : decode prog_3_method_26_code 17 = .ok (.dup2, 1) := by decide +kernel
theorem d_Da_mark_18 : decode prog_3_method_26_code 18 = .ok (.iaload, 1) := by decide +kernel
theorem d_Da_mark_19 : decode prog_3_method_26_code 19 = .ok (.iload 4, 2) := by decide +kernel
theorem d_Da_mark_21 : decode prog_3_method_26_code 21 = .ok (.ior, 1) := by decide +kernel
theorem d_Da_mark_22 : decode prog_3_method_26_code 22 = .ok (.iastore, 1) := by decide +kernel
theorem d_Da_mark_5 : decode prog_3_method_26_code 5 = .ok (.ifCond .eq 18, 3) := by decide +kernel
def f_Da_mark (σ : Mem) (a0 : Int32) (a1 : Int32) (g2 : Nat) (n2 : Nat) (a3 : Int32) (a4 : Int32) : Option (Mem) :=
  bnd1 (f_Sh_inTown a0 a1) fun r2 =>
  if r2 = 0 then
    (some σ)
  else
    (letv ((a3 + (12 * a1)) + a0) fun v17 =>
    grd (inb v17 n2) <|
    grd (inb v17 n2) <|
    letv (sI σ g2 (v17.toNatClampNeg) ((mI σ g2 (v17.toNatClampNeg)) ||| a4)) fun σ22 =>
    some σ22)
set_option maxHeartbeats 4000000 in
set_option maxRecDepth 20000 in
theorem c_Da_mark (Z : ZX) {σ : Mem} {a0 : Int32} {a1 : Int32} {g2 : Nat} {n2 : Nat} {a3 : Int32} {a4 : Int32} {σ' : Mem} (hk2 : g2 < nC) (hy2 : lay1 g2 = .inl (.int, n2)) (h : f_Da_mark σ a0 a1 g2 n2 a3 a4 = some σ') : CN Z 1 m_Da_mark [.int a0, .int a1, rf Z g2, .int a3, .int a4] σ σ' := by
  refine Ct.of (by decide +kernel) (Nat.le_of_ble_eq_true rfl) (fun Y => ?_)
  show V (mkB Z) Y m_Da_mark 1 (QP (mkB Z) Y nC 0 0 (fun v t => v = none ∧ t = σ')) 0 0 nC σ 0 [(0, .int a0), (1, .int a1), (2, rf Z g2), (3, .int a3), (4, .int a4)] []
  unfold f_Da_mark at h
  refine V.iload_n d_Da_mark_0 rfl 0 rfl ?_
  refine V.iload_n d_Da_mark_1 rfl 1 rfl ?_
  obtain ⟨r2, h1, h⟩ := bnd1_e h
  refine V.tI (as := [.int a0, .int a1]) (st := []) (c_Sh_inTown Z h1) k_Sh_inTown ln_Da_164 (by decide) rfl rfl (Nat.le_of_ble_eq_true rfl) d_Da_mark_2 ?_
  refine V.if_eq (tgt := 23) d_Da_mark_5 (by decide) (fun hc5 => ?_) (fun hc5 => ?_)
  · replace h := ite_t hc5 h
    cases h
    exact V.vret rfl d_Da_mark_23 ⟨rfl, rfl⟩
  · replace h := ite_f hc5 h
    refine V.aload_n d_Da_mark_8 rfl 2 rfl ?_
    refine V.iload_n d_Da_mark_9 rfl 3 rfl ?_
    refine V.bipush (v := 12) d_Da_mark_10 (by decide) ?_
    refine V.iload_n d_Da_mark_12 rfl 1 rfl ?_
    refine V.imul d_Da_mark_13 ?_
    refine V.iadd d_Da_mark_14 ?_
    refine V.iload_n d_Da_mark_15 rfl 0 rfl ?_
    refine V.iadd d_Da_mark_16 ?_
    obtain ⟨v17, e_v17, h⟩ := letv_e h
    refine V.topI e_v17 ?_
    refine V.dup2 d_Da_mark_17 rfl rfl ?_
    obtain ⟨gq, h⟩ := grd_e h
    refine V.ra hk2 hy2 (inb_e gq) rfl d_Da_mark_18 ?_
    refine V.iload d_Da_mark_19 4 rfl ?_
    refine V.ior d_Da_mark_21 ?_
    obtain ⟨gq, h⟩ := grd_e h
    obtain ⟨σ22, e_σ22, h⟩ := letv_e h
    refine V.wa hk2 hy2 (inb_e gq) rfl d_Da_mark_22 e_σ22 ?_
    cases h
    exact V.vret rfl d_Da_mark_23 ⟨rfl, rfl⟩
abbrev m_JM_abs_0f7a4 : MI := (⟨"java/lang/Math", "abs", "(I)I"⟩, prog_16_method_59_code, 1, (Option.some Jvm.ClassFile.FieldType.int))
theorem d_JM_abs_0f7a4_0 : decode prog_16_method_59_code 0 = .ok (.iload_n 0, 1) := by decide +kernel
theorem d_JM_abs_0f7a4_9 : decode prog_16_method_59_code 9 = .ok (.iload_n 0, 1) := by decide +kernel
theorem d_JM_abs_0f7a4_10 : decode prog_16_method_59_code 10 = .ok (.ireturn, 1) := by decide +kernel
theorem d_JM_abs_0f7a4_4 : decode prog_16_method_59_code 4 = .ok (.iload_n 0, 1) := by decide +kernel
theorem d_JM_abs_0f7a4_5 : decode prog_16_method_59_code 5 = .ok (.ineg, 1) := by decide +kernel
theorem d_JM_abs_0f7a4_6 : decode prog_16_method_59_code 6 = .ok (.goto 4, 3) := by decide +kernel
theorem d_JM_abs_0f7a4_1 : decode prog_16_method_59_code 1 = .ok (.ifCond .ge 8, 3) := by decide +kernel
def f_JM_abs_0f7a4 (a0 : Int32) : Option (Int32) :=
  if 0 ≤ a0 then
    (some a0)
  else
    (some (-a0))
set_option maxHeartbeats 4000000 in
set_option maxRecDepth 20000 in
theorem c_JM_abs_0f7a4 (Z : ZX) {σ : Mem} {a0 : Int32} {r : Int32} (h : f_JM_abs_0f7a4 a0 = some r) : CI Z 0 m_JM_abs_0f7a4 [.int a0] σ r σ := by
  refine Ct.of (by decide +kernel) (Nat.le_of_ble_eq_true rfl) (fun Y => ?_)
  show V (mkB Z) Y m_JM_abs_0f7a4 0 (QP (mkB Z) Y nC 0 0 (fun v t => v = some (.int r) ∧ t = σ)) 0 0 nC σ 0 [(0, .int a0)] []
  unfold f_JM_abs_0f7a4 at h
  refine V.iload_n d_JM_abs_0f7a4_0 rfl 0 rfl ?_
  refine V.if_ge (tgt := 9) d_JM_abs_0f7a4_1 (by decide) (fun hc1 => ?_) (fun hc1 => ?_)
  · replace h := ite_t hc1 h
    refine V.iload_n d_JM_abs_0f7a4_9 rfl 0 rfl ?_
    cases h
    exact V.iret rfl d_JM_abs_0f7a4_10 ⟨rfl, rfl⟩
  · replace h := ite_f hc1 h
    refine V.iload_n d_JM_abs_0f7a4_4 rfl 0 rfl ?_
    refine V.ineg d_JM_abs_0f7a4_5 ?_
    refine V.goto (tgt := 10) d_JM_abs_0f7a4_6 (by decide) ?_
    cases h
    exact V.iret rfl d_JM_abs_0f7a4_10 ⟨rfl, rfl⟩
abbrev m_Sh_eastOf : MI := (⟨"ShadeTown", "eastOf", "(I)I"⟩, prog_1_method_47_code, 1, (Option.some Jvm.ClassFile.FieldType.int))
theorem d_Sh_eastOf_0 : decode prog_1_method_47_code 0 = .ok (.iload_n 0, 1) := by decide +kernel
theorem d_Sh_eastOf_1 : decode prog_1_method_47_code 1 = .ok (.iconst 1, 1) := by decide +kernel
theorem d_Sh_eastOf_9 : decode prog_1_method_47_code 9 = .ok (.iload_n 0, 1) := by decide +kernel
theorem d_Sh_eastOf_10 : decode prog_1_method_47_code 10 = .ok (.iconst 3, 1) := by decide +kernel
theorem d_Sh_eastOf_18 : decode prog_1_method_47_code 18 = .ok (.iconst 0, 1) := by decide +kernel
theorem d_Sh_eastOf_19 : decode prog_1_method_47_code 19 = .ok (.ireturn, 1) := by decide +kernel
theorem d_Sh_eastOf_14 : decode prog_1_method_47_code 14 = .ok (.iconst (-1), 1) := by decide +kernel
theorem d_Sh_eastOf_15 : decode prog_1_method_47_code 15 = .ok (.goto 4, 3) := by decide +kernel
theorem d_Sh_eastOf_11 : decode prog_1_method_47_code 11 = .ok (.if_icmp .ne 7, 3) := by decide +kernel
theorem d_Sh_eastOf_5 : decode prog_1_method_47_code 5 = .ok (.iconst 1, 1) := by decide +kernel
theorem d_Sh_eastOf_6 : decode prog_1_method_47_code 6 = .ok (.goto 13, 3) := by decide +kernel
theorem d_Sh_eastOf_2 : decode prog_1_method_47_code 2 = .ok (.if_icmp .ne 7, 3) := by decide +kernel
def f_Sh_eastOf (a0 : Int32) : Option (Int32) :=
  if a0 = 1 then
    (some 1)
  else
    (if a0 = 3 then
      (some (-1))
    else
      (some 0))
set_option maxHeartbeats 4000000 in
set_option maxRecDepth 20000 in
theorem c_Sh_eastOf (Z : ZX) {σ : Mem} {a0 : Int32} {r : Int32} (h : f_Sh_eastOf a0 = some r) : CI Z 0 m_Sh_eastOf [.int a0] σ r σ := by
  refine Ct.of (by decide +kernel) (Nat.le_of_ble_eq_true rfl) (fun Y => ?_)
  show V (mkB Z) Y m_Sh_eastOf 0 (QP (mkB Z) Y nC 0 0 (fun v t => v = some (.int r) ∧ t = σ)) 0 0 nC σ 0 [(0, .int a0)] []
  unfold f_Sh_eastOf at h
  refine V.iload_n d_Sh_eastOf_0 rfl 0 rfl ?_
  refine V.iconst (v := 1) d_Sh_eastOf_1 (by decide) ?_
  refine V.icmp_ne (tgt := 9) d_Sh_eastOf_2 (by decide) (fun hc2 => ?_) (fun hc2 => ?_)
  · replace h := ite_f hc2 h
    refine V.iload_n d_Sh_eastOf_9 rfl 0 rfl ?_
    refine V.iconst (v := 3) d_Sh_eastOf_10 (by decide) ?_
    refine V.icmp_ne (tgt := 18) d_Sh_eastOf_11 (by decide) (fun hc11 => ?_) (fun hc11 => ?_)
    · replace h := ite_f hc11 h
      refine V.iconst (v := 0) d_Sh_eastOf_18 (by decide) ?_
      cases h
      exact V.iret rfl d_Sh_eastOf_19 ⟨rfl, rfl⟩
    · replace h := ite_t hc11 h
      refine V.iconst (v := (-1)) d_Sh_eastOf_14 (by decide) ?_
      refine V.goto (tgt := 19) d_Sh_eastOf_15 (by decide) ?_
      cases h
      exact V.iret rfl d_Sh_eastOf_19 ⟨rfl, rfl⟩
  · replace h := ite_t hc2 h
    refine V.iconst (v := 1) d_Sh_eastOf_5 (by decide) ?_
    refine V.goto (tgt := 19) d_Sh_eastOf_6 (by decide) ?_
    cases h
    exact V.iret rfl d_Sh_eastOf_19 ⟨rfl, rfl⟩
abbrev m_Sh_northOf : MI := (⟨"ShadeTown", "northOf", "(I)I"⟩, prog_1_method_48_code, 1, (Option.some Jvm.ClassFile.FieldType.int))
theorem d_Sh_northOf_0 : decode prog_1_method_48_code 0 = .ok (.iload_n 0, 1) := by decide +kernel
theorem d_Sh_northOf_8 : decode prog_1_method_48_code 8 = .ok (.iload_n 0, 1) := by decide +kernel
theorem d_Sh_northOf_9 : decode prog_1_method_48_code 9 = .ok (.iconst 2, 1) := by decide +kernel
theorem d_Sh_northOf_17 : decode prog_1_method_48_code 17 = .ok (.iconst 0, 1) := by decide +kernel
theorem d_Sh_northOf_18 : decode prog_1_method_48_code 18 = .ok (.ireturn, 1) := by decide +kernel
theorem d_Sh_northOf_13 : decode prog_1_method_48_code 13 = .ok (.iconst (-1), 1) := by decide +kernel
theorem d_Sh_northOf_14 : decode prog_1_method_48_code 14 = .ok (.goto 4, 3) := by decide +kernel
theorem d_Sh_northOf_10 : decode prog_1_method_48_code 10 = .ok (.if_icmp .ne 7, 3) := by decide +kernel
theorem d_Sh_northOf_4 : decode prog_1_method_48_code 4 = .ok (.iconst 1, 1) := by decide +kernel
theorem d_Sh_northOf_5 : decode prog_1_method_48_code 5 = .ok (.goto 13, 3) := by decide +kernel
theorem d_Sh_northOf_1 : decode prog_1_method_48_code 1 = .ok (.ifCond .ne 7, 3) := by decide +kernel
def f_Sh_northOf (a0 : Int32) : Option (Int32) :=
  if a0 = 0 then
    (some 1)
  else
    (if a0 = 2 then
      (some (-1))
    else
      (some 0))
set_option maxHeartbeats 4000000 in
set_option maxRecDepth 20000 in
theorem c_Sh_northOf (Z : ZX) {σ : Mem} {a0 : Int32} {r : Int32} (h : f_Sh_northOf a0 = some r) : CI Z 0 m_Sh_northOf [.int a0] σ r σ := by
  refine Ct.of (by decide +kernel) (Nat.le_of_ble_eq_true rfl) (fun Y => ?_)
  show V (mkB Z) Y m_Sh_northOf 0 (QP (mkB Z) Y nC 0 0 (fun v t => v = some (.int r) ∧ t = σ)) 0 0 nC σ 0 [(0, .int a0)] []
  unfold f_Sh_northOf at h
  refine V.iload_n d_Sh_northOf_0 rfl 0 rfl ?_
  refine V.if_ne (tgt := 8) d_Sh_northOf_1 (by decide) (fun hc1 => ?_) (fun hc1 => ?_)
  · replace h := ite_f hc1 h
    refine V.iload_n d_Sh_northOf_8 rfl 0 rfl ?_
    refine V.iconst (v := 2) d_Sh_northOf_9 (by decide) ?_
    refine V.icmp_ne (tgt := 17) d_Sh_northOf_10 (by decide) (fun hc10 => ?_) (fun hc10 => ?_)
    · replace h := ite_f hc10 h
      refine V.iconst (v := 0) d_Sh_northOf_17 (by decide) ?_
      cases h
      exact V.iret rfl d_Sh_northOf_18 ⟨rfl, rfl⟩
    · replace h := ite_t hc10 h
      refine V.iconst (v := (-1)) d_Sh_northOf_13 (by decide) ?_
      refine V.goto (tgt := 18) d_Sh_northOf_14 (by decide) ?_
      cases h
      exact V.iret rfl d_Sh_northOf_18 ⟨rfl, rfl⟩
  · replace h := ite_t hc1 h
    refine V.iconst (v := 1) d_Sh_northOf_4 (by decide) ?_
    refine V.goto (tgt := 18) d_Sh_northOf_5 (by decide) ?_
    cases h
    exact V.iret rfl d_Sh_northOf_18 ⟨rfl, rfl⟩
