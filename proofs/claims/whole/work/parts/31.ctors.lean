def lay0 : LY := fun k => match lay1 k with
  | .inl a => .inl a
  | .inr (ci, ks) => .inr (ci, ks.map (fun t => if 3 ≤ t then 2 else t))
def mkB0 (Z : ZX) : BX := (Z.1, Z.2.1, Z.2.2.1, Z.2.2.2.1, Z.2.2.2.2.1, lay0, Z.2.2.2.2.2.1, Z.2.2.2.2.2.2)
abbrev rf0 (Z : ZX) (k : Nat) : Value := .ref (ad (bb (mkB0 Z)) k)
abbrev m_Sh_init : MI := (⟨"ShadeTown", "<init>", "()V"⟩, prog_1_method_1_code, 1, (Option.none : Option Jvm.ClassFile.FieldType))
theorem d_Sh_init_0 : decode prog_1_method_1_code 0 = .ok (.aload_n 0, 1) := by decide +kernel
theorem lk_Sh_1 : Cond.methodLink "ShadeTown" 1 ⟨"java/lang/Object", "<init>", "()V"⟩ ∈ tblG := atG 137 (by decide +kernel) rfl
theorem d_Sh_init_1 : decode prog_1_method_1_code 1 = .ok (.invokespecial 1, 3) := by decide +kernel
theorem d_Sh_init_4 : decode prog_1_method_1_code 4 = .ok (.aload_n 0, 1) := by decide +kernel
theorem cw_Sh_7 : Cond.classLink "ShadeTown" 7 "ShadeTown$Tape" ∈ tblG := atG 140 (by decide +kernel) rfl
theorem iw_Ta : Cond.instantiable "ShadeTown$Tape" 2 ∈ tblG ∧ Cond.initialized "ShadeTown$Tape" ∈ tblG := ⟨atG 141 (by decide +kernel) rfl, atG 112 (by decide +kernel) rfl⟩
theorem d_Sh_init_5 : decode prog_1_method_1_code 5 = .ok (.new 7, 3) := by decide +kernel
theorem d_Sh_init_8 : decode prog_1_method_1_code 8 = .ok (.dup, 1) := by decide +kernel
abbrev m_Ta_init : MI := (⟨"ShadeTown$Tape", "<init>", "()V"⟩, prog_8_method_1_code, 1, (Option.none : Option Jvm.ClassFile.FieldType))
theorem d_Ta_init_0 : decode prog_8_method_1_code 0 = .ok (.aload_n 0, 1) := by decide +kernel
theorem lk_Ta_3 : Cond.methodLink "ShadeTown$Tape" 3 ⟨"java/lang/Object", "<init>", "()V"⟩ ∈ tblG := atG 145 (by decide +kernel) rfl
theorem d_Ta_init_1 : decode prog_8_method_1_code 1 = .ok (.invokespecial 3, 3) := by decide +kernel
theorem d_Ta_init_4 : decode prog_8_method_1_code 4 = .ok (.aload_n 0, 1) := by decide +kernel
theorem d_Ta_init_5 : decode prog_8_method_1_code 5 = .ok (.sipush 260, 3) := by decide +kernel
theorem aw_int : Cond.arrayClass .int ∈ tblG := atG 153 (by decide +kernel) rfl
theorem d_Ta_init_8 : decode prog_8_method_1_code 8 = .ok (.newarray .int, 2) := by decide +kernel
theorem d_Ta_init_10 : decode prog_8_method_1_code 10 = .ok (.putfield 11, 3) := by decide +kernel
theorem d_Ta_init_13 : decode prog_8_method_1_code 13 = .ok (.aload_n 0, 1) := by decide +kernel
theorem d_Ta_init_14 : decode prog_8_method_1_code 14 = .ok (.iconst 0, 1) := by decide +kernel
theorem d_Ta_init_15 : decode prog_8_method_1_code 15 = .ok (.putfield 15, 3) := by decide +kernel
theorem d_Ta_init_18 : decode prog_8_method_1_code 18 = .ok (.return_, 1) := by decide +kernel
def g_Ta_init_1 (σ : Mem) : Mem := sI (sR (zr (σ) 2) 1 0 3) 1 1 0
set_option maxHeartbeats 4000000 in
set_option maxRecDepth 100000 in
theorem c_Ta_init_1 (Z : ZX) (σ : Mem) : Ct (mkB0 Z) 1 m_Ta_init [rf0 Z 1] 2 σ 1 260 (fun v t => v = none ∧ t = g_Ta_init_1 σ) := by
  refine Ct.ofM (by decide +kernel) (Nat.le_of_ble_eq_true rfl) (fun Y hR => ?_)
  show V (mkB0 Z) Y m_Ta_init 1 (QP (mkB0 Z) Y 3 1 260 (fun v t => v = none ∧ t = g_Ta_init_1 σ)) 0 0 2 σ 0 [(0, rf0 Z 1)] []
  refine V.aload_n d_Ta_init_0 rfl 0 rfl ?_
  refine V.oinit lk_Ta_3 (by decide) (Nat.le_of_ble_eq_true rfl) d_Ta_init_1 ?_
  refine V.aload_n d_Ta_init_4 rfl 0 rfl ?_
  refine V.sipush (v := 260) d_Ta_init_5 (by decide) ?_
  refine V.newA (atype := .int) (ty := .int) (t := 0) (N := 260) rfl aw_int rfl (fun _ h => h) rfl (fun _ => rfl) (by decide) (by decide) (by decide) (fun R h => by rw [← h, hR]; exact ⟨Nat.le_of_ble_eq_true rfl, Nat.le_of_ble_eq_true rfl⟩) d_Ta_init_8 ?_
  refine V.putF (r := 2) ok_Ta fl_Ta_11 (by decide) (by decide) rfl rfl rfl rfl rfl (fun _ => rfl) (fun _ => rfl) d_Ta_init_10 ?_
  refine V.aload_n d_Ta_init_13 rfl 0 rfl ?_
  refine V.iconst (v := 0) d_Ta_init_14 (by decide) ?_
  refine V.putI ok_Ta fl_Ta_15 (by decide) (by decide) rfl rfl rfl rfl rfl d_Ta_init_15 ?_
  exact V.vret rfl d_Ta_init_18 ⟨rfl, rfl⟩

theorem ki_Ta_init : MOk m_Ta_init 0 ∧ Cond.instanceMethod m_Ta_init.1 ∈ tblG := ⟨⟨atG 144 (by decide +kernel) rfl, atG 112 (by decide +kernel) rfl, ⟨by decide, by decide⟩, by decide +kernel, by decide⟩, atG 143 (by decide +kernel) rfl⟩
theorem ln_Sh_9 : Cond.methodLinkNest "ShadeTown" 9 ⟨"ShadeTown$Tape", "<init>", "()V"⟩ "ShadeTown" ∈ nestW := List.mem_of_getElem? (i := 0) rfl
theorem d_Sh_init_9 : decode prog_1_method_1_code 9 = .ok (.invokespecial 9, 3) := by decide +kernel
theorem d_Sh_init_12 : decode prog_1_method_1_code 12 = .ok (.putfield 10, 3) := by decide +kernel
theorem d_Sh_init_15 : decode prog_1_method_1_code 15 = .ok (.aload_n 0, 1) := by decide +kernel
theorem cw_Sh_16 : Cond.classLink "ShadeTown" 16 "ShadeTown$Law" ∈ tblG := atG 154 (by decide +kernel) rfl
theorem iw_La : Cond.instantiable "ShadeTown$Law" 8 ∈ tblG ∧ Cond.initialized "ShadeTown$Law" ∈ tblG := ⟨atG 155 (by decide +kernel) rfl, atG 113 (by decide +kernel) rfl⟩
theorem d_Sh_init_16 : decode prog_1_method_1_code 16 = .ok (.new 16, 3) := by decide +kernel
theorem d_Sh_init_19 : decode prog_1_method_1_code 19 = .ok (.dup, 1) := by decide +kernel
abbrev m_La_init : MI := (⟨"ShadeTown$Law", "<init>", "()V"⟩, prog_4_method_1_code, 1, (Option.none : Option Jvm.ClassFile.FieldType))
theorem d_La_init_0 : decode prog_4_method_1_code 0 = .ok (.aload_n 0, 1) := by decide +kernel
theorem lk_La_5 : Cond.methodLink "ShadeTown$Law" 5 ⟨"java/lang/Object", "<init>", "()V"⟩ ∈ tblG := atG 159 (by decide +kernel) rfl
theorem d_La_init_1 : decode prog_4_method_1_code 1 = .ok (.invokespecial 5, 3) := by decide +kernel
theorem d_La_init_4 : decode prog_4_method_1_code 4 = .ok (.aload_n 0, 1) := by decide +kernel
theorem d_La_init_5 : decode prog_4_method_1_code 5 = .ok (.sipush 513, 3) := by decide +kernel
theorem d_La_init_8 : decode prog_4_method_1_code 8 = .ok (.newarray .int, 2) := by decide +kernel
theorem d_La_init_10 : decode prog_4_method_1_code 10 = .ok (.putfield 11, 3) := by decide +kernel
theorem d_La_init_13 : decode prog_4_method_1_code 13 = .ok (.aload_n 0, 1) := by decide +kernel
theorem d_La_init_14 : decode prog_4_method_1_code 14 = .ok (.iconst 0, 1) := by decide +kernel
theorem d_La_init_15 : decode prog_4_method_1_code 15 = .ok (.putfield 15, 3) := by decide +kernel
theorem d_La_init_18 : decode prog_4_method_1_code 18 = .ok (.aload_n 0, 1) := by decide +kernel
theorem d_La_init_19 : decode prog_4_method_1_code 19 = .ok (.bipush 16, 2) := by decide +kernel
theorem d_La_init_21 : decode prog_4_method_1_code 21 = .ok (.newarray .int, 2) := by decide +kernel
theorem d_La_init_23 : decode prog_4_method_1_code 23 = .ok (.putfield 19, 3) := by decide +kernel
theorem d_La_init_26 : decode prog_4_method_1_code 26 = .ok (.aload_n 0, 1) := by decide +kernel
theorem d_La_init_27 : decode prog_4_method_1_code 27 = .ok (.bipush 16, 2) := by decide +kernel
theorem d_La_init_29 : decode prog_4_method_1_code 29 = .ok (.newarray .int, 2) := by decide +kernel
theorem d_La_init_31 : decode prog_4_method_1_code 31 = .ok (.putfield 22, 3) := by decide +kernel
theorem d_La_init_34 : decode prog_4_method_1_code 34 = .ok (.aload_n 0, 1) := by decide +kernel
theorem d_La_init_35 : decode prog_4_method_1_code 35 = .ok (.bipush 16, 2) := by decide +kernel
theorem d_La_init_37 : decode prog_4_method_1_code 37 = .ok (.newarray .int, 2) := by decide +kernel
theorem d_La_init_39 : decode prog_4_method_1_code 39 = .ok (.putfield 25, 3) := by decide +kernel
theorem d_La_init_42 : decode prog_4_method_1_code 42 = .ok (.aload_n 0, 1) := by decide +kernel
theorem d_La_init_43 : decode prog_4_method_1_code 43 = .ok (.iconst 0, 1) := by decide +kernel
theorem d_La_init_44 : decode prog_4_method_1_code 44 = .ok (.putfield 28, 3) := by decide +kernel
theorem d_La_init_47 : decode prog_4_method_1_code 47 = .ok (.aload_n 0, 1) := by decide +kernel
theorem d_La_init_48 : decode prog_4_method_1_code 48 = .ok (.bipush 9, 2) := by decide +kernel
theorem d_La_init_50 : decode prog_4_method_1_code 50 = .ok (.newarray .int, 2) := by decide +kernel
theorem d_La_init_52 : decode prog_4_method_1_code 52 = .ok (.putfield 31, 3) := by decide +kernel
theorem d_La_init_55 : decode prog_4_method_1_code 55 = .ok (.aload_n 0, 1) := by decide +kernel
theorem d_La_init_56 : decode prog_4_method_1_code 56 = .ok (.bipush 32, 2) := by decide +kernel
theorem d_La_init_58 : decode prog_4_method_1_code 58 = .ok (.newarray .int, 2) := by decide +kernel
theorem d_La_init_60 : decode prog_4_method_1_code 60 = .ok (.putfield 34, 3) := by decide +kernel
theorem d_La_init_63 : decode prog_4_method_1_code 63 = .ok (.return_, 1) := by decide +kernel
def g_La_init_3 (σ : Mem) : Mem := sR (zr (sR (zr (sI (sR (zr (sR (zr (sR (zr (sI (sR (zr (σ) 4) 3 0 5) 3 1 0) 5) 3 2 6) 6) 3 3 7) 7) 3 4 8) 3 5 0) 8) 3 6 9) 9) 3 7 10
set_option maxHeartbeats 4000000 in
set_option maxRecDepth 100000 in
theorem c_La_init_3 (Z : ZX) (σ : Mem) : Ct (mkB0 Z) 1 m_La_init [rf0 Z 3] 4 σ 6 602 (fun v t => v = none ∧ t = g_La_init_3 σ) := by
  refine Ct.ofM (by decide +kernel) (Nat.le_of_ble_eq_true rfl) (fun Y hR => ?_)
  show V (mkB0 Z) Y m_La_init 1 (QP (mkB0 Z) Y 10 6 602 (fun v t => v = none ∧ t = g_La_init_3 σ)) 0 0 4 σ 0 [(0, rf0 Z 3)] []
  refine V.aload_n d_La_init_0 rfl 0 rfl ?_
  refine V.oinit lk_La_5 (by decide) (Nat.le_of_ble_eq_true rfl) d_La_init_1 ?_
  refine V.aload_n d_La_init_4 rfl 0 rfl ?_
  refine V.sipush (v := 513) d_La_init_5 (by decide) ?_
  refine V.newA (atype := .int) (ty := .int) (t := 0) (N := 513) rfl aw_int rfl (fun _ h => h) rfl (fun _ => rfl) (by decide) (by decide) (by decide) (fun R h => by rw [← h, hR]; exact ⟨Nat.le_of_ble_eq_true rfl, Nat.le_of_ble_eq_true rfl⟩) d_La_init_8 ?_
  refine V.putF (r := 4) ok_La fl_La_11 (by decide) (by decide) rfl rfl rfl rfl rfl (fun _ => rfl) (fun _ => rfl) d_La_init_10 ?_
  refine V.aload_n d_La_init_13 rfl 0 rfl ?_
  refine V.iconst (v := 0) d_La_init_14 (by decide) ?_
  refine V.putI ok_La fl_La_15 (by decide) (by decide) rfl rfl rfl rfl rfl d_La_init_15 ?_
  refine V.aload_n d_La_init_18 rfl 0 rfl ?_
  refine V.bipush (v := 16) d_La_init_19 (by decide) ?_
  refine V.newA (atype := .int) (ty := .int) (t := 0) (N := 16) rfl aw_int rfl (fun _ h => h) rfl (fun _ => rfl) (by decide) (by decide) (by decide) (fun R h => by rw [← h, hR]; exact ⟨Nat.le_of_ble_eq_true rfl, Nat.le_of_ble_eq_true rfl⟩) d_La_init_21 ?_
  refine V.putF (r := 5) ok_La fl_La_19 (by decide) (by decide) rfl rfl rfl rfl rfl (fun _ => rfl) (fun _ => rfl) d_La_init_23 ?_
  refine V.aload_n d_La_init_26 rfl 0 rfl ?_
  refine V.bipush (v := 16) d_La_init_27 (by decide) ?_
  refine V.newA (atype := .int) (ty := .int) (t := 0) (N := 16) rfl aw_int rfl (fun _ h => h) rfl (fun _ => rfl) (by decide) (by decide) (by decide) (fun R h => by rw [← h, hR]; exact ⟨Nat.le_of_ble_eq_true rfl, Nat.le_of_ble_eq_true rfl⟩) d_La_init_29 ?_
  refine V.putF (r := 6) ok_La fl_La_22 (by decide) (by decide) rfl rfl rfl rfl rfl (fun _ => rfl) (fun _ => rfl) d_La_init_31 ?_
  refine V.aload_n d_La_init_34 rfl 0 rfl ?_
  refine V.bipush (v := 16) d_La_init_35 (by decide) ?_
  refine V.newA (atype := .int) (ty := .int) (t := 0) (N := 16) rfl aw_int rfl (fun _ h => h) rfl (fun _ => rfl) (by decide) (by decide) (by decide) (fun R h => by rw [← h, hR]; exact ⟨Nat.le_of_ble_eq_true rfl, Nat.le_of_ble_eq_true rfl⟩) d_La_init_37 ?_
  refine V.putF (r := 7) ok_La fl_La_25 (by decide) (by decide) rfl rfl rfl rfl rfl (fun _ => rfl) (fun _ => rfl) d_La_init_39 ?_
  refine V.aload_n d_La_init_42 rfl 0 rfl ?_
  refine V.iconst (v := 0) d_La_init_43 (by decide) ?_
  refine V.putI ok_La fl_La_28 (by decide) (by decide) rfl rfl rfl rfl rfl d_La_init_44 ?_
  refine V.aload_n d_La_init_47 rfl 0 rfl ?_
  refine V.bipush (v := 9) d_La_init_48 (by decide) ?_
  refine V.newA (atype := .int) (ty := .int) (t := 0) (N := 9) rfl aw_int rfl (fun _ h => h) rfl (fun _ => rfl) (by decide) (by decide) (by decide) (fun R h => by rw [← h, hR]; exact ⟨Nat.le_of_ble_eq_true rfl, Nat.le_of_ble_eq_true rfl⟩) d_La_init_50 ?_
  refine V.putF (r := 8) ok_La fl_La_31 (by decide) (by decide) rfl rfl rfl rfl rfl (fun _ => rfl) (fun _ => rfl) d_La_init_52 ?_
  refine V.aload_n d_La_init_55 rfl 0 rfl ?_
  refine V.bipush (v := 32) d_La_init_56 (by decide) ?_
  refine V.newA (atype := .int) (ty := .int) (t := 0) (N := 32) rfl aw_int rfl (fun _ h => h) rfl (fun _ => rfl) (by decide) (by decide) (by decide) (fun R h => by rw [← h, hR]; exact ⟨Nat.le_of_ble_eq_true rfl, Nat.le_of_ble_eq_true rfl⟩) d_La_init_58 ?_
  refine V.putF (r := 9) ok_La fl_La_34 (by decide) (by decide) rfl rfl rfl rfl rfl (fun _ => rfl) (fun _ => rfl) d_La_init_60 ?_
  exact V.vret rfl d_La_init_63 ⟨rfl, rfl⟩

theorem ki_La_init : MOk m_La_init 0 ∧ Cond.instanceMethod m_La_init.1 ∈ tblG := ⟨⟨atG 158 (by decide +kernel) rfl, atG 113 (by decide +kernel) rfl, ⟨by decide, by decide⟩, by decide +kernel, by decide⟩, atG 157 (by decide +kernel) rfl⟩
theorem ln_Sh_18 : Cond.methodLinkNest "ShadeTown" 18 ⟨"ShadeTown$Law", "<init>", "()V"⟩ "ShadeTown" ∈ nestW := List.mem_of_getElem? (i := 1) rfl
theorem d_Sh_init_20 : decode prog_1_method_1_code 20 = .ok (.invokespecial 18, 3) := by decide +kernel
theorem d_Sh_init_23 : decode prog_1_method_1_code 23 = .ok (.putfield 19, 3) := by decide +kernel
theorem d_Sh_init_26 : decode prog_1_method_1_code 26 = .ok (.aload_n 0, 1) := by decide +kernel
theorem d_Sh_init_27 : decode prog_1_method_1_code 27 = .ok (.new 16, 3) := by decide +kernel
theorem d_Sh_init_30 : decode prog_1_method_1_code 30 = .ok (.dup, 1) := by decide +kernel
def g_La_init_10 (σ : Mem) : Mem := sR (zr (sR (zr (sI (sR (zr (sR (zr (sR (zr (sI (sR (zr (σ) 11) 10 0 12) 10 1 0) 12) 10 2 13) 13) 10 3 14) 14) 10 4 15) 10 5 0) 15) 10 6 16) 16) 10 7 17
set_option maxHeartbeats 4000000 in
set_option maxRecDepth 100000 in
theorem c_La_init_10 (Z : ZX) (σ : Mem) : Ct (mkB0 Z) 1 m_La_init [rf0 Z 10] 11 σ 6 602 (fun v t => v = none ∧ t = g_La_init_10 σ) := by
  refine Ct.ofM (by decide +kernel) (Nat.le_of_ble_eq_true rfl) (fun Y hR => ?_)
  show V (mkB0 Z) Y m_La_init 1 (QP (mkB0 Z) Y 17 6 602 (fun v t => v = none ∧ t = g_La_init_10 σ)) 0 0 11 σ 0 [(0, rf0 Z 10)] []
  refine V.aload_n d_La_init_0 rfl 0 rfl ?_
  refine V.oinit lk_La_5 (by decide) (Nat.le_of_ble_eq_true rfl) d_La_init_1 ?_
  refine V.aload_n d_La_init_4 rfl 0 rfl ?_
  refine V.sipush (v := 513) d_La_init_5 (by decide) ?_
  refine V.newA (atype := .int) (ty := .int) (t := 0) (N := 513) rfl aw_int rfl (fun _ h => h) rfl (fun _ => rfl) (by decide) (by decide) (by decide) (fun R h => by rw [← h, hR]; exact ⟨Nat.le_of_ble_eq_true rfl, Nat.le_of_ble_eq_true rfl⟩) d_La_init_8 ?_
  refine V.putF (r := 11) ok_La fl_La_11 (by decide) (by decide) rfl rfl rfl rfl rfl (fun _ => rfl) (fun _ => rfl) d_La_init_10 ?_
  refine V.aload_n d_La_init_13 rfl 0 rfl ?_
  refine V.iconst (v := 0) d_La_init_14 (by decide) ?_
  refine V.putI ok_La fl_La_15 (by decide) (by decide) rfl rfl rfl rfl rfl d_La_init_15 ?_
  refine V.aload_n d_La_init_18 rfl 0 rfl ?_
  refine V.bipush (v := 16) d_La_init_19 (by decide) ?_
  refine V.newA (atype := .int) (ty := .int) (t := 0) (N := 16) rfl aw_int rfl (fun _ h => h) rfl (fun _ => rfl) (by decide) (by decide) (by decide) (fun R h => by rw [← h, hR]; exact ⟨Nat.le_of_ble_eq_true rfl, Nat.le_of_ble_eq_true rfl⟩) d_La_init_21 ?_
  refine V.putF (r := 12) ok_La fl_La_19 (by decide) (by decide) rfl rfl rfl rfl rfl (fun _ => rfl) (fun _ => rfl) d_La_init_23 ?_
  refine V.aload_n d_La_init_26 rfl 0 rfl ?_
  refine V.bipush (v := 16) d_La_init_27 (by decide) ?_
  refine V.newA (atype := .int) (ty := .int) (t := 0) (N := 16) rfl aw_int rfl (fun _ h => h) rfl (fun _ => rfl) (by decide) (by decide) (by decide) (fun R h => by rw [← h, hR]; exact ⟨Nat.le_of_ble_eq_true rfl, Nat.le_of_ble_eq_true rfl⟩) d_La_init_29 ?_
  refine V.putF (r := 13) ok_La fl_La_22 (by decide) (by decide) rfl rfl rfl rfl rfl (fun _ => rfl) (fun _ => rfl) d_La_init_31 ?_
  refine V.aload_n d_La_init_34 rfl 0 rfl ?_
  refine V.bipush (v := 16) d_La_init_35 (by decide) ?_
  refine V.newA (atype := .int) (ty := .int) (t := 0) (N := 16) rfl aw_int rfl (fun _ h => h) rfl (fun _ => rfl) (by decide) (by decide) (by decide) (fun R h => by rw [← h, hR]; exact ⟨Nat.le_of_ble_eq_true rfl, Nat.le_of_ble_eq_true rfl⟩) d_La_init_37 ?_
  refine V.putF (r := 14) ok_La fl_La_25 (by decide) (by decide) rfl rfl rfl rfl rfl (fun _ => rfl) (fun _ => rfl) d_La_init_39 ?_
  refine V.aload_n d_La_init_42 rfl 0 rfl ?_
  refine V.iconst (v := 0) d_La_init_43 (by decide) ?_
  refine V.putI ok_La fl_La_28 (by decide) (by decide) rfl rfl rfl rfl rfl d_La_init_44 ?_
  refine V.aload_n d_La_init_47 rfl 0 rfl ?_
  refine V.bipush (v := 9) d_La_init_48 (by decide) ?_
  refine V.newA (atype := .int) (ty := .int) (t := 0) (N := 9) rfl aw_int rfl (fun _ h => h) rfl (fun _ => rfl) (by decide) (by decide) (by decide) (fun R h => by rw [← h, hR]; exact ⟨Nat.le_of_ble_eq_true rfl, Nat.le_of_ble_eq_true rfl⟩) d_La_init_50 ?_
  refine V.putF (r := 15) ok_La fl_La_31 (by decide) (by decide) rfl rfl rfl rfl rfl (fun _ => rfl) (fun _ => rfl) d_La_init_52 ?_
  refine V.aload_n d_La_init_55 rfl 0 rfl ?_
  refine V.bipush (v := 32) d_La_init_56 (by decide) ?_
  refine V.newA (atype := .int) (ty := .int) (t := 0) (N := 32) rfl aw_int rfl (fun _ h => h) rfl (fun _ => rfl) (by decide) (by decide) (by decide) (fun R h => by rw [← h, hR]; exact ⟨Nat.le_of_ble_eq_true rfl, Nat.le_of_ble_eq_true rfl⟩) d_La_init_58 ?_
  refine V.putF (r := 16) ok_La fl_La_34 (by decide) (by decide) rfl rfl rfl rfl rfl (fun _ => rfl) (fun _ => rfl) d_La_init_60 ?_
  exact V.vret rfl d_La_init_63 ⟨rfl, rfl⟩

theorem d_Sh_init_31 : decode prog_1_method_1_code 31 = .ok (.invokespecial 18, 3) := by decide +kernel
theorem d_Sh_init_34 : decode prog_1_method_1_code 34 = .ok (.putfield 23, 3) := by decide +kernel
theorem d_Sh_init_37 : decode prog_1_method_1_code 37 = .ok (.aload_n 0, 1) := by decide +kernel
theorem cw_Sh_26 : Cond.classLink "ShadeTown" 26 "ShadeTown$LawReader" ∈ tblG := atG 185 (by decide +kernel) rfl
theorem iw_Rd : Cond.instantiable "ShadeTown$LawReader" 6 ∈ tblG ∧ Cond.initialized "ShadeTown$LawReader" ∈ tblG := ⟨atG 186 (by decide +kernel) rfl, atG 114 (by decide +kernel) rfl⟩
theorem d_Sh_init_38 : decode prog_1_method_1_code 38 = .ok (.new 26, 3) := by decide +kernel
theorem d_Sh_init_41 : decode prog_1_method_1_code 41 = .ok (.dup, 1) := by decide +kernel
theorem d_Sh_init_42 : decode prog_1_method_1_code 42 = .ok (.aload_n 0, 1) := by decide +kernel
theorem d_Sh_init_43 : decode prog_1_method_1_code 43 = .ok (.getfield 10, 3) := by decide +kernel
theorem d_Sh_init_46 : decode prog_1_method_1_code 46 = .ok (.aload_n 0, 1) := by decide +kernel
theorem d_Sh_init_47 : decode prog_1_method_1_code 47 = .ok (.getfield 23, 3) := by decide +kernel
abbrev m_Rd_init : MI := (⟨"ShadeTown$LawReader", "<init>", "(LShadeTown$Tape;LShadeTown$Law;)V"⟩, prog_5_method_1_code, 3, (Option.none : Option Jvm.ClassFile.FieldType))
theorem d_Rd_init_0 : decode prog_5_method_1_code 0 = .ok (.aload_n 0, 1) := by decide +kernel
theorem lk_Rd_3 : Cond.methodLink "ShadeTown$LawReader" 3 ⟨"java/lang/Object", "<init>", "()V"⟩ ∈ tblG := atG 190 (by decide +kernel) rfl
theorem d_Rd_init_1 : decode prog_5_method_1_code 1 = .ok (.invokespecial 3, 3) := by decide +kernel
theorem d_Rd_init_4 : decode prog_5_method_1_code 4 = .ok (.aload_n 0, 1) := by decide +kernel
theorem d_Rd_init_5 : decode prog_5_method_1_code 5 = .ok (.sipush 240, 3) := by decide +kernel
theorem d_Rd_init_8 : decode prog_5_method_1_code 8 = .ok (.newarray .int, 2) := by decide +kernel
theorem d_Rd_init_10 : decode prog_5_method_1_code 10 = .ok (.putfield 9, 3) := by decide +kernel
theorem d_Rd_init_13 : decode prog_5_method_1_code 13 = .ok (.aload_n 0, 1) := by decide +kernel
theorem d_Rd_init_14 : decode prog_5_method_1_code 14 = .ok (.iconst 0, 1) := by decide +kernel
theorem d_Rd_init_15 : decode prog_5_method_1_code 15 = .ok (.putfield 15, 3) := by decide +kernel
theorem d_Rd_init_18 : decode prog_5_method_1_code 18 = .ok (.aload_n 0, 1) := by decide +kernel
theorem d_Rd_init_19 : decode prog_5_method_1_code 19 = .ok (.iconst 0, 1) := by decide +kernel
theorem d_Rd_init_20 : decode prog_5_method_1_code 20 = .ok (.putfield 19, 3) := by decide +kernel
theorem d_Rd_init_23 : decode prog_5_method_1_code 23 = .ok (.aload_n 0, 1) := by decide +kernel
theorem d_Rd_init_24 : decode prog_5_method_1_code 24 = .ok (.iconst 0, 1) := by decide +kernel
theorem d_Rd_init_25 : decode prog_5_method_1_code 25 = .ok (.putfield 22, 3) := by decide +kernel
theorem d_Rd_init_28 : decode prog_5_method_1_code 28 = .ok (.aload_n 0, 1) := by decide +kernel
theorem d_Rd_init_29 : decode prog_5_method_1_code 29 = .ok (.aload_n 1, 1) := by decide +kernel
theorem d_Rd_init_30 : decode prog_5_method_1_code 30 = .ok (.putfield 25, 3) := by decide +kernel
theorem d_Rd_init_33 : decode prog_5_method_1_code 33 = .ok (.aload_n 0, 1) := by decide +kernel
theorem d_Rd_init_34 : decode prog_5_method_1_code 34 = .ok (.aload_n 2, 1) := by decide +kernel
theorem d_Rd_init_35 : decode prog_5_method_1_code 35 = .ok (.putfield 29, 3) := by decide +kernel
theorem d_Rd_init_38 : decode prog_5_method_1_code 38 = .ok (.return_, 1) := by decide +kernel
def g_Rd_init_17 (σ : Mem) : Mem := sR (sR (sI (sI (sI (sR (zr (σ) 18) 17 2 19) 17 3 0) 17 4 0) 17 5 0) 17 0 2) 17 1 11
set_option maxHeartbeats 4000000 in
set_option maxRecDepth 100000 in
theorem c_Rd_init_17 (Z : ZX) (σ : Mem) : Ct (mkB0 Z) 1 m_Rd_init [rf0 Z 17, rf0 Z 1, rf0 Z 10] 18 σ 1 240 (fun v t => v = none ∧ t = g_Rd_init_17 σ) := by
  refine Ct.ofM (by decide +kernel) (Nat.le_of_ble_eq_true rfl) (fun Y hR => ?_)
  show V (mkB0 Z) Y m_Rd_init 1 (QP (mkB0 Z) Y 19 1 240 (fun v t => v = none ∧ t = g_Rd_init_17 σ)) 0 0 18 σ 0 [(0, rf0 Z 17), (1, rf0 Z 1), (2, rf0 Z 10)] []
  refine V.aload_n d_Rd_init_0 rfl 0 rfl ?_
  refine V.oinit lk_Rd_3 (by decide) (Nat.le_of_ble_eq_true rfl) d_Rd_init_1 ?_
  refine V.aload_n d_Rd_init_4 rfl 0 rfl ?_
  refine V.sipush (v := 240) d_Rd_init_5 (by decide) ?_
  refine V.newA (atype := .int) (ty := .int) (t := 0) (N := 240) rfl aw_int rfl (fun _ h => h) rfl (fun _ => rfl) (by decide) (by decide) (by decide) (fun R h => by rw [← h, hR]; exact ⟨Nat.le_of_ble_eq_true rfl, Nat.le_of_ble_eq_true rfl⟩) d_Rd_init_8 ?_
  refine V.putF (r := 18) ok_Rd fl_Rd_9 (by decide) (by decide) rfl rfl rfl rfl rfl (fun _ => rfl) (fun _ => rfl) d_Rd_init_10 ?_
  refine V.aload_n d_Rd_init_13 rfl 0 rfl ?_
  refine V.iconst (v := 0) d_Rd_init_14 (by decide) ?_
  refine V.putI ok_Rd fl_Rd_15 (by decide) (by decide) rfl rfl rfl rfl rfl d_Rd_init_15 ?_
  refine V.aload_n d_Rd_init_18 rfl 0 rfl ?_
  refine V.iconst (v := 0) d_Rd_init_19 (by decide) ?_
  refine V.putI ok_Rd fl_Rd_19 (by decide) (by decide) rfl rfl rfl rfl rfl d_Rd_init_20 ?_
  refine V.aload_n d_Rd_init_23 rfl 0 rfl ?_
  refine V.iconst (v := 0) d_Rd_init_24 (by decide) ?_
  refine V.putI ok_Rd fl_Rd_22 (by decide) (by decide) rfl rfl rfl rfl rfl d_Rd_init_25 ?_
  refine V.aload_n d_Rd_init_28 rfl 0 rfl ?_
  refine V.aload_n d_Rd_init_29 rfl 1 rfl ?_
  refine V.putF (r := 1) ok_Rd fl_Rd_25 (by decide) (by decide) rfl rfl rfl rfl rfl (fun _ => rfl) (fun _ => rfl) d_Rd_init_30 ?_
  refine V.aload_n d_Rd_init_33 rfl 0 rfl ?_
  refine V.aload_n d_Rd_init_34 rfl 2 rfl ?_
  refine V.putF (r := 10) ok_Rd fl_Rd_29 (by decide) (by decide) rfl rfl rfl rfl rfl (fun _ => rfl) (fun _ => rfl) d_Rd_init_35 ?_
  exact V.vret rfl d_Rd_init_38 ⟨rfl, rfl⟩

theorem ki_Rd_init : MOk m_Rd_init 2 ∧ Cond.instanceMethod m_Rd_init.1 ∈ tblG := ⟨⟨atG 189 (by decide +kernel) rfl, atG 114 (by decide +kernel) rfl, ⟨by decide, by decide⟩, by decide +kernel, by decide⟩, atG 188 (by decide +kernel) rfl⟩
theorem lk_Sh_28 : Cond.methodLink "ShadeTown" 28 ⟨"ShadeTown$LawReader", "<init>", "(LShadeTown$Tape;LShadeTown$Law;)V"⟩ ∈ tblG := atG 187 (by decide +kernel) rfl
theorem d_Sh_init_50 : decode prog_1_method_1_code 50 = .ok (.invokespecial 28, 3) := by decide +kernel
theorem d_Sh_init_53 : decode prog_1_method_1_code 53 = .ok (.putfield 31, 3) := by decide +kernel
theorem d_Sh_init_56 : decode prog_1_method_1_code 56 = .ok (.aload_n 0, 1) := by decide +kernel
theorem cw_Sh_35 : Cond.classLink "ShadeTown" 35 "ShadeTown$Town" ∈ tblG := atG 210 (by decide +kernel) rfl
theorem iw_To : Cond.instantiable "ShadeTown$Town" 10 ∈ tblG ∧ Cond.initialized "ShadeTown$Town" ∈ tblG := ⟨atG 211 (by decide +kernel) rfl, atG 115 (by decide +kernel) rfl⟩
theorem d_Sh_init_57 : decode prog_1_method_1_code 57 = .ok (.new 35, 3) := by decide +kernel
theorem d_Sh_init_60 : decode prog_1_method_1_code 60 = .ok (.dup, 1) := by decide +kernel
abbrev m_To_init : MI := (⟨"ShadeTown$Town", "<init>", "()V"⟩, prog_9_method_1_code, 1, (Option.none : Option Jvm.ClassFile.FieldType))
theorem d_To_init_0 : decode prog_9_method_1_code 0 = .ok (.aload_n 0, 1) := by decide +kernel
theorem lk_To_5 : Cond.methodLink "ShadeTown$Town" 5 ⟨"java/lang/Object", "<init>", "()V"⟩ ∈ tblG := atG 215 (by decide +kernel) rfl
theorem d_To_init_1 : decode prog_9_method_1_code 1 = .ok (.invokespecial 5, 3) := by decide +kernel
theorem d_To_init_4 : decode prog_9_method_1_code 4 = .ok (.aload_n 0, 1) := by decide +kernel
theorem d_To_init_5 : decode prog_9_method_1_code 5 = .ok (.bipush 17, 2) := by decide +kernel
theorem d_To_init_7 : decode prog_9_method_1_code 7 = .ok (.newarray .int, 2) := by decide +kernel
theorem d_To_init_9 : decode prog_9_method_1_code 9 = .ok (.putfield 11, 3) := by decide +kernel
theorem d_To_init_12 : decode prog_9_method_1_code 12 = .ok (.aload_n 0, 1) := by decide +kernel
theorem d_To_init_13 : decode prog_9_method_1_code 13 = .ok (.bipush 17, 2) := by decide +kernel
theorem d_To_init_15 : decode prog_9_method_1_code 15 = .ok (.newarray .int, 2) := by decide +kernel
theorem d_To_init_17 : decode prog_9_method_1_code 17 = .ok (.putfield 15, 3) := by decide +kernel
theorem d_To_init_20 : decode prog_9_method_1_code 20 = .ok (.aload_n 0, 1) := by decide +kernel
theorem d_To_init_21 : decode prog_9_method_1_code 21 = .ok (.bipush 17, 2) := by decide +kernel
theorem d_To_init_23 : decode prog_9_method_1_code 23 = .ok (.newarray .int, 2) := by decide +kernel
theorem d_To_init_25 : decode prog_9_method_1_code 25 = .ok (.putfield 18, 3) := by decide +kernel
theorem d_To_init_28 : decode prog_9_method_1_code 28 = .ok (.aload_n 0, 1) := by decide +kernel
theorem d_To_init_29 : decode prog_9_method_1_code 29 = .ok (.bipush 17, 2) := by decide +kernel
theorem d_To_init_31 : decode prog_9_method_1_code 31 = .ok (.newarray .int, 2) := by decide +kernel
theorem d_To_init_33 : decode prog_9_method_1_code 33 = .ok (.putfield 21, 3) := by decide +kernel
theorem d_To_init_36 : decode prog_9_method_1_code 36 = .ok (.aload_n 0, 1) := by decide +kernel
theorem d_To_init_37 : decode prog_9_method_1_code 37 = .ok (.bipush 17, 2) := by decide +kernel
theorem d_To_init_39 : decode prog_9_method_1_code 39 = .ok (.newarray .int, 2) := by decide +kernel
theorem d_To_init_41 : decode prog_9_method_1_code 41 = .ok (.putfield 24, 3) := by decide +kernel
theorem d_To_init_44 : decode prog_9_method_1_code 44 = .ok (.aload_n 0, 1) := by decide +kernel
theorem d_To_init_45 : decode prog_9_method_1_code 45 = .ok (.bipush 6, 2) := by decide +kernel
theorem d_To_init_47 : decode prog_9_method_1_code 47 = .ok (.newarray .int, 2) := by decide +kernel
theorem d_To_init_49 : decode prog_9_method_1_code 49 = .ok (.putfield 27, 3) := by decide +kernel
theorem d_To_init_52 : decode prog_9_method_1_code 52 = .ok (.aload_n 0, 1) := by decide +kernel
theorem d_To_init_53 : decode prog_9_method_1_code 53 = .ok (.iconst 0, 1) := by decide +kernel
theorem d_To_init_54 : decode prog_9_method_1_code 54 = .ok (.putfield 30, 3) := by decide +kernel
theorem d_To_init_57 : decode prog_9_method_1_code 57 = .ok (.aload_n 0, 1) := by decide +kernel
theorem d_To_init_58 : decode prog_9_method_1_code 58 = .ok (.iconst 0, 1) := by decide +kernel
theorem d_To_init_59 : decode prog_9_method_1_code 59 = .ok (.putfield 34, 3) := by decide +kernel
theorem d_To_init_62 : decode prog_9_method_1_code 62 = .ok (.aload_n 0, 1) := by decide +kernel
theorem d_To_init_63 : decode prog_9_method_1_code 63 = .ok (.iconst 0, 1) := by decide +kernel
theorem d_To_init_64 : decode prog_9_method_1_code 64 = .ok (.putfield 37, 3) := by decide +kernel
theorem d_To_init_67 : decode prog_9_method_1_code 67 = .ok (.aload_n 0, 1) := by decide +kernel
theorem d_To_init_68 : decode prog_9_method_1_code 68 = .ok (.iconst 1, 1) := by decide +kernel
theorem d_To_init_69 : decode prog_9_method_1_code 69 = .ok (.putfield 40, 3) := by decide +kernel
theorem d_To_init_72 : decode prog_9_method_1_code 72 = .ok (.return_, 1) := by decide +kernel
def g_To_init_19 (σ : Mem) : Mem := sI (sI (sI (sI (sR (zr (sR (zr (sR (zr (sR (zr (sR (zr (sR (zr (σ) 20) 19 0 21) 21) 19 1 22) 22) 19 2 23) 23) 19 3 24) 24) 19 4 25) 25) 19 5 26) 19 6 0) 19 7 0) 19 8 0) 19 9 1
set_option maxHeartbeats 4000000 in
set_option maxRecDepth 100000 in
theorem c_To_init_19 (Z : ZX) (σ : Mem) : Ct (mkB0 Z) 1 m_To_init [rf0 Z 19] 20 σ 6 91 (fun v t => v = none ∧ t = g_To_init_19 σ) := by
  refine Ct.ofM (by decide +kernel) (Nat.le_of_ble_eq_true rfl) (fun Y hR => ?_)
  show V (mkB0 Z) Y m_To_init 1 (QP (mkB0 Z) Y 26 6 91 (fun v t => v = none ∧ t = g_To_init_19 σ)) 0 0 20 σ 0 [(0, rf0 Z 19)] []
  refine V.aload_n d_To_init_0 rfl 0 rfl ?_
  refine V.oinit lk_To_5 (by decide) (Nat.le_of_ble_eq_true rfl) d_To_init_1 ?_
  refine V.aload_n d_To_init_4 rfl 0 rfl ?_
  refine V.bipush (v := 17) d_To_init_5 (by decide) ?_
  refine V.newA (atype := .int) (ty := .int) (t := 0) (N := 17) rfl aw_int rfl (fun _ h => h) rfl (fun _ => rfl) (by decide) (by decide) (by decide) (fun R h => by rw [← h, hR]; exact ⟨Nat.le_of_ble_eq_true rfl, Nat.le_of_ble_eq_true rfl⟩) d_To_init_7 ?_
  refine V.putF (r := 20) ok_To fl_To_11 (by decide) (by decide) rfl rfl rfl rfl rfl (fun _ => rfl) (fun _ => rfl) d_To_init_9 ?_
  refine V.aload_n d_To_init_12 rfl 0 rfl ?_
  refine V.bipush (v := 17) d_To_init_13 (by decide) ?_
  refine V.newA (atype := .int) (ty := .int) (t := 0) (N := 17) rfl aw_int rfl (fun _ h => h) rfl (fun _ => rfl) (by decide) (by decide) (by decide) (fun R h => by rw [← h, hR]; exact ⟨Nat.le_of_ble_eq_true rfl, Nat.le_of_ble_eq_true rfl⟩) d_To_init_15 ?_
  refine V.putF (r := 21) ok_To fl_To_15 (by decide) (by decide) rfl rfl rfl rfl rfl (fun _ => rfl) (fun _ => rfl) d_To_init_17 ?_
  refine V.aload_n d_To_init_20 rfl 0 rfl ?_
  refine V.bipush (v := 17) d_To_init_21 (by decide) ?_
  refine V.newA (atype := .int) (ty := .int) (t := 0) (N := 17) rfl aw_int rfl (fun _ h => h) rfl (fun _ => rfl) (by decide) (by decide) (by decide) (fun R h => by rw [← h, hR]; exact ⟨Nat.le_of_ble_eq_true rfl, Nat.le_of_ble_eq_true rfl⟩) d_To_init_23 ?_
  refine V.putF (r := 22) ok_To fl_To_18 (by decide) (by decide) rfl rfl rfl rfl rfl (fun _ => rfl) (fun _ => rfl) d_To_init_25 ?_
  refine V.aload_n d_To_init_28 rfl 0 rfl ?_
  refine V.bipush (v := 17) d_To_init_29 (by decide) ?_
  refine V.newA (atype := .int) (ty := .int) (t := 0) (N := 17) rfl aw_int rfl (fun _ h => h) rfl (fun _ => rfl) (by decide) (by decide) (by decide) (fun R h => by rw [← h, hR]; exact ⟨Nat.le_of_ble_eq_true rfl, Nat.le_of_ble_eq_true rfl⟩) d_To_init_31 ?_
  refine V.putF (r := 23) ok_To fl_To_21 (by decide) (by decide) rfl rfl rfl rfl rfl (fun _ => rfl) (fun _ => rfl) d_To_init_33 ?_
  refine V.aload_n d_To_init_36 rfl 0 rfl ?_
  refine V.bipush (v := 17) d_To_init_37 (by decide) ?_
  refine V.newA (atype := .int) (ty := .int) (t := 0) (N := 17) rfl aw_int rfl (fun _ h => h) rfl (fun _ => rfl) (by decide) (by decide) (by decide) (fun R h => by rw [← h, hR]; exact ⟨Nat.le_of_ble_eq_true rfl, Nat.le_of_ble_eq_true rfl⟩) d_To_init_39 ?_
  refine V.putF (r := 24) ok_To fl_To_24 (by decide) (by decide) rfl rfl rfl rfl rfl (fun _ => rfl) (fun _ => rfl) d_To_init_41 ?_
  refine V.aload_n d_To_init_44 rfl 0 rfl ?_
  refine V.bipush (v := 6) d_To_init_45 (by decide) ?_
  refine V.newA (atype := .int) (ty := .int) (t := 0) (N := 6) rfl aw_int rfl (fun _ h => h) rfl (fun _ => rfl) (by decide) (by decide) (by decide) (fun R h => by rw [← h, hR]; exact ⟨Nat.le_of_ble_eq_true rfl, Nat.le_of_ble_eq_true rfl⟩) d_To_init_47 ?_
  refine V.putF (r := 25) ok_To fl_To_27 (by decide) (by decide) rfl rfl rfl rfl rfl (fun _ => rfl) (fun _ => rfl) d_To_init_49 ?_
  refine V.aload_n d_To_init_52 rfl 0 rfl ?_
  refine V.iconst (v := 0) d_To_init_53 (by decide) ?_
  refine V.putI ok_To fl_To_30 (by decide) (by decide) rfl rfl rfl rfl rfl d_To_init_54 ?_
  refine V.aload_n d_To_init_57 rfl 0 rfl ?_
  refine V.iconst (v := 0) d_To_init_58 (by decide) ?_
  refine V.putI ok_To fl_To_34 (by decide) (by decide) rfl rfl rfl rfl rfl d_To_init_59 ?_
  refine V.aload_n d_To_init_62 rfl 0 rfl ?_
  refine V.iconst (v := 0) d_To_init_63 (by decide) ?_
  refine V.putI ok_To fl_To_37 (by decide) (by decide) rfl rfl rfl rfl rfl d_To_init_64 ?_
  refine V.aload_n d_To_init_67 rfl 0 rfl ?_
  refine V.iconst (v := 1) d_To_init_68 (by decide) ?_
  refine V.putI ok_To fl_To_40 (by decide) (by decide) rfl rfl rfl rfl rfl d_To_init_69 ?_
  exact V.vret rfl d_To_init_72 ⟨rfl, rfl⟩

theorem ki_To_init : MOk m_To_init 0 ∧ Cond.instanceMethod m_To_init.1 ∈ tblG := ⟨⟨atG 214 (by decide +kernel) rfl, atG 115 (by decide +kernel) rfl, ⟨by decide, by decide⟩, by decide +kernel, by decide⟩, atG 213 (by decide +kernel) rfl⟩
theorem ln_Sh_37 : Cond.methodLinkNest "ShadeTown" 37 ⟨"ShadeTown$Town", "<init>", "()V"⟩ "ShadeTown" ∈ nestW := List.mem_of_getElem? (i := 2) rfl
theorem d_Sh_init_61 : decode prog_1_method_1_code 61 = .ok (.invokespecial 37, 3) := by decide +kernel
theorem d_Sh_init_64 : decode prog_1_method_1_code 64 = .ok (.putfield 38, 3) := by decide +kernel
theorem d_Sh_init_67 : decode prog_1_method_1_code 67 = .ok (.aload_n 0, 1) := by decide +kernel
theorem d_Sh_init_68 : decode prog_1_method_1_code 68 = .ok (.new 35, 3) := by decide +kernel
theorem d_Sh_init_71 : decode prog_1_method_1_code 71 = .ok (.dup, 1) := by decide +kernel
def g_To_init_26 (σ : Mem) : Mem := sI (sI (sI (sI (sR (zr (sR (zr (sR (zr (sR (zr (sR (zr (sR (zr (σ) 27) 26 0 28) 28) 26 1 29) 29) 26 2 30) 30) 26 3 31) 31) 26 4 32) 32) 26 5 33) 26 6 0) 26 7 0) 26 8 0) 26 9 1
set_option maxHeartbeats 4000000 in
set_option maxRecDepth 100000 in
theorem c_To_init_26 (Z : ZX) (σ : Mem) : Ct (mkB0 Z) 1 m_To_init [rf0 Z 26] 27 σ 6 91 (fun v t => v = none ∧ t = g_To_init_26 σ) := by
  refine Ct.ofM (by decide +kernel) (Nat.le_of_ble_eq_true rfl) (fun Y hR => ?_)
  show V (mkB0 Z) Y m_To_init 1 (QP (mkB0 Z) Y 33 6 91 (fun v t => v = none ∧ t = g_To_init_26 σ)) 0 0 27 σ 0 [(0, rf0 Z 26)] []
  refine V.aload_n d_To_init_0 rfl 0 rfl ?_
  refine V.oinit lk_To_5 (by decide) (Nat.le_of_ble_eq_true rfl) d_To_init_1 ?_
  refine V.aload_n d_To_init_4 rfl 0 rfl ?_
  refine V.bipush (v := 17) d_To_init_5 (by decide) ?_
  refine V.newA (atype := .int) (ty := .int) (t := 0) (N := 17) rfl aw_int rfl (fun _ h => h) rfl (fun _ => rfl) (by decide) (by decide) (by decide) (fun R h => by rw [← h, hR]; exact ⟨Nat.le_of_ble_eq_true rfl, Nat.le_of_ble_eq_true rfl⟩) d_To_init_7 ?_
  refine V.putF (r := 27) ok_To fl_To_11 (by decide) (by decide) rfl rfl rfl rfl rfl (fun _ => rfl) (fun _ => rfl) d_To_init_9 ?_
  refine V.aload_n d_To_init_12 rfl 0 rfl ?_
  refine V.bipush (v := 17) d_To_init_13 (by decide) ?_
  refine V.newA (atype := .int) (ty := .int) (t := 0) (N := 17) rfl aw_int rfl (fun _ h => h) rfl (fun _ => rfl) (by decide) (by decide) (by decide) (fun R h => by rw [← h, hR]; exact ⟨Nat.le_of_ble_eq_true rfl, Nat.le_of_ble_eq_true rfl⟩) d_To_init_15 ?_
  refine V.putF (r := 28) ok_To fl_To_15 (by decide) (by decide) rfl rfl rfl rfl rfl (fun _ => rfl) (fun _ => rfl) d_To_init_17 ?_
  refine V.aload_n d_To_init_20 rfl 0 rfl ?_
  refine V.bipush (v := 17) d_To_init_21 (by decide) ?_
  refine V.newA (atype := .int) (ty := .int) (t := 0) (N := 17) rfl aw_int rfl (fun _ h => h) rfl (fun _ => rfl) (by decide) (by decide) (by decide) (fun R h => by rw [← h, hR]; exact ⟨Nat.le_of_ble_eq_true rfl, Nat.le_of_ble_eq_true rfl⟩) d_To_init_23 ?_
  refine V.putF (r := 29) ok_To fl_To_18 (by decide) (by decide) rfl rfl rfl rfl rfl (fun _ => rfl) (fun _ => rfl) d_To_init_25 ?_
  refine V.aload_n d_To_init_28 rfl 0 rfl ?_
  refine V.bipush (v := 17) d_To_init_29 (by decide) ?_
  refine V.newA (atype := .int) (ty := .int) (t := 0) (N := 17) rfl aw_int rfl (fun _ h => h) rfl (fun _ => rfl) (by decide) (by decide) (by decide) (fun R h => by rw [← h, hR]; exact ⟨Nat.le_of_ble_eq_true rfl, Nat.le_of_ble_eq_true rfl⟩) d_To_init_31 ?_
  refine V.putF (r := 30) ok_To fl_To_21 (by decide) (by decide) rfl rfl rfl rfl rfl (fun _ => rfl) (fun _ => rfl) d_To_init_33 ?_
  refine V.aload_n d_To_init_36 rfl 0 rfl ?_
  refine V.bipush (v := 17) d_To_init_37 (by decide) ?_
  refine V.newA (atype := .int) (ty := .int) (t := 0) (N := 17) rfl aw_int rfl (fun _ h => h) rfl (fun _ => rfl) (by decide) (by decide) (by decide) (fun R h => by rw [← h, hR]; exact ⟨Nat.le_of_ble_eq_true rfl, Nat.le_of_ble_eq_true rfl⟩) d_To_init_39 ?_
  refine V.putF (r := 31) ok_To fl_To_24 (by decide) (by decide) rfl rfl rfl rfl rfl (fun _ => rfl) (fun _ => rfl) d_To_init_41 ?_
  refine V.aload_n d_To_init_44 rfl 0 rfl ?_
  refine V.bipush (v := 6) d_To_init_45 (by decide) ?_
  refine V.newA (atype := .int) (ty := .int) (t := 0) (N := 6) rfl aw_int rfl (fun _ h => h) rfl (fun _ => rfl) (by decide) (by decide) (by decide) (fun R h => by rw [← h, hR]; exact ⟨Nat.le_of_ble_eq_true rfl, Nat.le_of_ble_eq_true rfl⟩) d_To_init_47 ?_
  refine V.putF (r := 32) ok_To fl_To_27 (by decide) (by decide) rfl rfl rfl rfl rfl (fun _ => rfl) (fun _ => rfl) d_To_init_49 ?_
  refine V.aload_n d_To_init_52 rfl 0 rfl ?_
  refine V.iconst (v := 0) d_To_init_53 (by decide) ?_
  refine V.putI ok_To fl_To_30 (by decide) (by decide) rfl rfl rfl rfl rfl d_To_init_54 ?_
  refine V.aload_n d_To_init_57 rfl 0 rfl ?_
  refine V.iconst (v := 0) d_To_init_58 (by decide) ?_
  refine V.putI ok_To fl_To_34 (by decide) (by decide) rfl rfl rfl rfl rfl d_To_init_59 ?_
  refine V.aload_n d_To_init_62 rfl 0 rfl ?_
  refine V.iconst (v := 0) d_To_init_63 (by decide) ?_
  refine V.putI ok_To fl_To_37 (by decide) (by decide) rfl rfl rfl rfl rfl d_To_init_64 ?_
  refine V.aload_n d_To_init_67 rfl 0 rfl ?_
  refine V.iconst (v := 1) d_To_init_68 (by decide) ?_
  refine V.putI ok_To fl_To_40 (by decide) (by decide) rfl rfl rfl rfl rfl d_To_init_69 ?_
  exact V.vret rfl d_To_init_72 ⟨rfl, rfl⟩

theorem d_Sh_init_72 : decode prog_1_method_1_code 72 = .ok (.invokespecial 37, 3) := by decide +kernel
theorem d_Sh_init_75 : decode prog_1_method_1_code 75 = .ok (.putfield 42, 3) := by decide +kernel
theorem d_Sh_init_78 : decode prog_1_method_1_code 78 = .ok (.aload_n 0, 1) := by decide +kernel
theorem d_Sh_init_79 : decode prog_1_method_1_code 79 = .ok (.iconst 0, 1) := by decide +kernel
theorem d_Sh_init_80 : decode prog_1_method_1_code 80 = .ok (.putfield 45, 3) := by decide +kernel
theorem d_Sh_init_83 : decode prog_1_method_1_code 83 = .ok (.aload_n 0, 1) := by decide +kernel
theorem cw_Sh_49 : Cond.classLink "ShadeTown" 49 "ShadeTown$Day" ∈ tblG := atG 266 (by decide +kernel) rfl
theorem iw_Da : Cond.instantiable "ShadeTown$Day" 11 ∈ tblG ∧ Cond.initialized "ShadeTown$Day" ∈ tblG := ⟨atG 267 (by decide +kernel) rfl, atG 116 (by decide +kernel) rfl⟩
theorem d_Sh_init_84 : decode prog_1_method_1_code 84 = .ok (.new 49, 3) := by decide +kernel
theorem d_Sh_init_87 : decode prog_1_method_1_code 87 = .ok (.dup, 1) := by decide +kernel
theorem d_Sh_init_88 : decode prog_1_method_1_code 88 = .ok (.aload_n 0, 1) := by decide +kernel
theorem d_Sh_init_89 : decode prog_1_method_1_code 89 = .ok (.getfield 38, 3) := by decide +kernel
theorem d_Sh_init_92 : decode prog_1_method_1_code 92 = .ok (.aload_n 0, 1) := by decide +kernel
theorem d_Sh_init_93 : decode prog_1_method_1_code 93 = .ok (.getfield 19, 3) := by decide +kernel
abbrev m_Da_init : MI := (⟨"ShadeTown$Day", "<init>", "(LShadeTown$Town;LShadeTown$Law;)V"⟩, prog_3_method_1_code, 3, (Option.none : Option Jvm.ClassFile.FieldType))
theorem d_Da_init_0 : decode prog_3_method_1_code 0 = .ok (.aload_n 0, 1) := by decide +kernel
theorem lk_Da_3 : Cond.methodLink "ShadeTown$Day" 3 ⟨"java/lang/Object", "<init>", "()V"⟩ ∈ tblG := atG 271 (by decide +kernel) rfl
theorem d_Da_init_1 : decode prog_3_method_1_code 1 = .ok (.invokespecial 3, 3) := by decide +kernel
theorem d_Da_init_4 : decode prog_3_method_1_code 4 = .ok (.aload_n 0, 1) := by decide +kernel
theorem d_Da_init_5 : decode prog_3_method_1_code 5 = .ok (.bipush 24, 2) := by decide +kernel
theorem aw_boolean : Cond.arrayClass .boolean ∈ tblG := atG 306 (by decide +kernel) rfl
theorem d_Da_init_7 : decode prog_3_method_1_code 7 = .ok (.newarray .boolean, 2) := by decide +kernel
theorem d_Da_init_9 : decode prog_3_method_1_code 9 = .ok (.putfield 9, 3) := by decide +kernel
theorem d_Da_init_12 : decode prog_3_method_1_code 12 = .ok (.aload_n 0, 1) := by decide +kernel
theorem d_Da_init_13 : decode prog_3_method_1_code 13 = .ok (.bipush 24, 2) := by decide +kernel
theorem d_Da_init_15 : decode prog_3_method_1_code 15 = .ok (.newarray .int, 2) := by decide +kernel
theorem d_Da_init_17 : decode prog_3_method_1_code 17 = .ok (.putfield 15, 3) := by decide +kernel
theorem d_Da_init_20 : decode prog_3_method_1_code 20 = .ok (.aload_n 0, 1) := by decide +kernel
theorem d_Da_init_21 : decode prog_3_method_1_code 21 = .ok (.bipush 24, 2) := by decide +kernel
theorem d_Da_init_23 : decode prog_3_method_1_code 23 = .ok (.newarray .int, 2) := by decide +kernel
theorem d_Da_init_25 : decode prog_3_method_1_code 25 = .ok (.putfield 19, 3) := by decide +kernel
theorem d_Da_init_28 : decode prog_3_method_1_code 28 = .ok (.aload_n 0, 1) := by decide +kernel
theorem d_Da_init_29 : decode prog_3_method_1_code 29 = .ok (.bipush 24, 2) := by decide +kernel
theorem d_Da_init_31 : decode prog_3_method_1_code 31 = .ok (.newarray .int, 2) := by decide +kernel
theorem d_Da_init_33 : decode prog_3_method_1_code 33 = .ok (.putfield 22, 3) := by decide +kernel
theorem d_Da_init_36 : decode prog_3_method_1_code 36 = .ok (.aload_n 0, 1) := by decide +kernel
theorem d_Da_init_37 : decode prog_3_method_1_code 37 = .ok (.iconst 0, 1) := by decide +kernel
theorem d_Da_init_38 : decode prog_3_method_1_code 38 = .ok (.putfield 25, 3) := by decide +kernel
theorem d_Da_init_41 : decode prog_3_method_1_code 41 = .ok (.aload_n 0, 1) := by decide +kernel
theorem d_Da_init_42 : decode prog_3_method_1_code 42 = .ok (.sipush 3456, 3) := by decide +kernel
theorem d_Da_init_45 : decode prog_3_method_1_code 45 = .ok (.newarray .int, 2) := by decide +kernel
theorem d_Da_init_47 : decode prog_3_method_1_code 47 = .ok (.putfield 29, 3) := by decide +kernel
theorem d_Da_init_50 : decode prog_3_method_1_code 50 = .ok (.aload_n 0, 1) := by decide +kernel
theorem d_Da_init_51 : decode prog_3_method_1_code 51 = .ok (.sipush 144, 3) := by decide +kernel
theorem d_Da_init_54 : decode prog_3_method_1_code 54 = .ok (.newarray .boolean, 2) := by decide +kernel
theorem d_Da_init_56 : decode prog_3_method_1_code 56 = .ok (.putfield 32, 3) := by decide +kernel
theorem d_Da_init_59 : decode prog_3_method_1_code 59 = .ok (.aload_n 0, 1) := by decide +kernel
theorem d_Da_init_60 : decode prog_3_method_1_code 60 = .ok (.iconst 0, 1) := by decide +kernel
theorem d_Da_init_61 : decode prog_3_method_1_code 61 = .ok (.putfield 35, 3) := by decide +kernel
theorem d_Da_init_64 : decode prog_3_method_1_code 64 = .ok (.aload_n 0, 1) := by decide +kernel
theorem d_Da_init_65 : decode prog_3_method_1_code 65 = .ok (.sipush 144, 3) := by decide +kernel
theorem d_Da_init_68 : decode prog_3_method_1_code 68 = .ok (.newarray .int, 2) := by decide +kernel
theorem d_Da_init_70 : decode prog_3_method_1_code 70 = .ok (.putfield 38, 3) := by decide +kernel
theorem d_Da_init_73 : decode prog_3_method_1_code 73 = .ok (.aload_n 0, 1) := by decide +kernel
theorem d_Da_init_74 : decode prog_3_method_1_code 74 = .ok (.aload_n 1, 1) := by decide +kernel
theorem d_Da_init_75 : decode prog_3_method_1_code 75 = .ok (.putfield 41, 3) := by decide +kernel
theorem d_Da_init_78 : decode prog_3_method_1_code 78 = .ok (.aload_n 0, 1) := by decide +kernel
theorem d_Da_init_79 : decode prog_3_method_1_code 79 = .ok (.aload_n 2, 1) := by decide +kernel
theorem d_Da_init_80 : decode prog_3_method_1_code 80 = .ok (.putfield 45, 3) := by decide +kernel
theorem d_Da_init_83 : decode prog_3_method_1_code 83 = .ok (.return_, 1) := by decide +kernel
def g_Da_init_33 (σ : Mem) : Mem := sR (sR (sR (zr (sI (sR (zr (sR (zr (sI (sR (zr (sR (zr (sR (zr (sR (zr (σ) 34) 33 2 35) 35) 33 3 36) 36) 33 4 37) 37) 33 5 38) 33 6 0) 38) 33 7 39) 39) 33 8 40) 33 9 0) 40) 33 10 41) 33 0 20) 33 1 4
set_option maxHeartbeats 4000000 in
set_option maxRecDepth 100000 in
theorem c_Da_init_33 (Z : ZX) (σ : Mem) : Ct (mkB0 Z) 1 m_Da_init [rf0 Z 33, rf0 Z 19, rf0 Z 3] 34 σ 7 3840 (fun v t => v = none ∧ t = g_Da_init_33 σ) := by
  refine Ct.ofM (by decide +kernel) (Nat.le_of_ble_eq_true rfl) (fun Y hR => ?_)
  show V (mkB0 Z) Y m_Da_init 1 (QP (mkB0 Z) Y 41 7 3840 (fun v t => v = none ∧ t = g_Da_init_33 σ)) 0 0 34 σ 0 [(0, rf0 Z 33), (1, rf0 Z 19), (2, rf0 Z 3)] []
  refine V.aload_n d_Da_init_0 rfl 0 rfl ?_
  refine V.oinit lk_Da_3 (by decide) (Nat.le_of_ble_eq_true rfl) d_Da_init_1 ?_
  refine V.aload_n d_Da_init_4 rfl 0 rfl ?_
  refine V.bipush (v := 24) d_Da_init_5 (by decide) ?_
  refine V.newA (atype := .boolean) (ty := .boolean) (t := 1) (N := 24) rfl aw_boolean rfl (fun _ h => h) rfl (fun _ => rfl) (by decide) (by decide) (by decide) (fun R h => by rw [← h, hR]; exact ⟨Nat.le_of_ble_eq_true rfl, Nat.le_of_ble_eq_true rfl⟩) d_Da_init_7 ?_
  refine V.putF (r := 34) ok_Da fl_Da_9 (by decide) (by decide) rfl rfl rfl rfl rfl (fun _ => rfl) (fun _ => rfl) d_Da_init_9 ?_
  refine V.aload_n d_Da_init_12 rfl 0 rfl ?_
  refine V.bipush (v := 24) d_Da_init_13 (by decide) ?_
  refine V.newA (atype := .int) (ty := .int) (t := 0) (N := 24) rfl aw_int rfl (fun _ h => h) rfl (fun _ => rfl) (by decide) (by decide) (by decide) (fun R h => by rw [← h, hR]; exact ⟨Nat.le_of_ble_eq_true rfl, Nat.le_of_ble_eq_true rfl⟩) d_Da_init_15 ?_
  refine V.putF (r := 35) ok_Da fl_Da_15 (by decide) (by decide) rfl rfl rfl rfl rfl (fun _ => rfl) (fun _ => rfl) d_Da_init_17 ?_
  refine V.aload_n d_Da_init_20 rfl 0 rfl ?_
  refine V.bipush (v := 24) d_Da_init_21 (by decide) ?_
  refine V.newA (atype := .int) (ty := .int) (t := 0) (N := 24) rfl aw_int rfl (fun _ h => h) rfl (fun _ => rfl) (by decide) (by decide) (by decide) (fun R h => by rw [← h, hR]; exact ⟨Nat.le_of_ble_eq_true rfl, Nat.le_of_ble_eq_true rfl⟩) d_Da_init_23 ?_
  refine V.putF (r := 36) ok_Da fl_Da_19 (by decide) (by decide) rfl rfl rfl rfl rfl (fun _ => rfl) (fun _ => rfl) d_Da_init_25 ?_
  refine V.aload_n d_Da_init_28 rfl 0 rfl ?_
  refine V.bipush (v := 24) d_Da_init_29 (by decide) ?_
  refine V.newA (atype := .int) (ty := .int) (t := 0) (N := 24) rfl aw_int rfl (fun _ h => h) rfl (fun _ => rfl) (by decide) (by decide) (by decide) (fun R h => by rw [← h, hR]; exact ⟨Nat.le_of_ble_eq_true rfl, Nat.le_of_ble_eq_true rfl⟩) d_Da_init_31 ?_
  refine V.putF (r := 37) ok_Da fl_Da_22 (by decide) (by decide) rfl rfl rfl rfl rfl (fun _ => rfl) (fun _ => rfl) d_Da_init_33 ?_
  refine V.aload_n d_Da_init_36 rfl 0 rfl ?_
  refine V.iconst (v := 0) d_Da_init_37 (by decide) ?_
  refine V.putI ok_Da fl_Da_25 (by decide) (by decide) rfl rfl rfl rfl rfl d_Da_init_38 ?_
  refine V.aload_n d_Da_init_41 rfl 0 rfl ?_
  refine V.sipush (v := 3456) d_Da_init_42 (by decide) ?_
  refine V.newA (atype := .int) (ty := .int) (t := 0) (N := 3456) rfl aw_int rfl (fun _ h => h) rfl (fun _ => rfl) (by decide) (by decide) (by decide) (fun R h => by rw [← h, hR]; exact ⟨Nat.le_of_ble_eq_true rfl, Nat.le_of_ble_eq_true rfl⟩) d_Da_init_45 ?_
  refine V.putF (r := 38) ok_Da fl_Da_29 (by decide) (by decide) rfl rfl rfl rfl rfl (fun _ => rfl) (fun _ => rfl) d_Da_init_47 ?_
  refine V.aload_n d_Da_init_50 rfl 0 rfl ?_
  refine V.sipush (v := 144) d_Da_init_51 (by decide) ?_
  refine V.newA (atype := .boolean) (ty := .boolean) (t := 1) (N := 144) rfl aw_boolean rfl (fun _ h => h) rfl (fun _ => rfl) (by decide) (by decide) (by decide) (fun R h => by rw [← h, hR]; exact ⟨Nat.le_of_ble_eq_true rfl, Nat.le_of_ble_eq_true rfl⟩) d_Da_init_54 ?_
  refine V.putF (r := 39) ok_Da fl_Da_32 (by decide) (by decide) rfl rfl rfl rfl rfl (fun _ => rfl) (fun _ => rfl) d_Da_init_56 ?_
  refine V.aload_n d_Da_init_59 rfl 0 rfl ?_
  refine V.iconst (v := 0) d_Da_init_60 (by decide) ?_
  refine V.putI ok_Da fl_Da_35 (by decide) (by decide) rfl rfl rfl rfl rfl d_Da_init_61 ?_
  refine V.aload_n d_Da_init_64 rfl 0 rfl ?_
  refine V.sipush (v := 144) d_Da_init_65 (by decide) ?_
  refine V.newA (atype := .int) (ty := .int) (t := 0) (N := 144) rfl aw_int rfl (fun _ h => h) rfl (fun _ => rfl) (by decide) (by decide) (by decide) (fun R h => by rw [← h, hR]; exact ⟨Nat.le_of_ble_eq_true rfl, Nat.le_of_ble_eq_true rfl⟩) d_Da_init_68 ?_
  refine V.putF (r := 40) ok_Da fl_Da_38 (by decide) (by decide) rfl rfl rfl rfl rfl (fun _ => rfl) (fun _ => rfl) d_Da_init_70 ?_
  refine V.aload_n d_Da_init_73 rfl 0 rfl ?_
  refine V.aload_n d_Da_init_74 rfl 1 rfl ?_
  refine V.putF (r := 19) ok_Da fl_Da_41 (by decide) (by decide) rfl rfl rfl rfl rfl (fun _ => rfl) (fun _ => rfl) d_Da_init_75 ?_
  refine V.aload_n d_Da_init_78 rfl 0 rfl ?_
  refine V.aload_n d_Da_init_79 rfl 2 rfl ?_
  refine V.putF (r := 3) ok_Da fl_Da_45 (by decide) (by decide) rfl rfl rfl rfl rfl (fun _ => rfl) (fun _ => rfl) d_Da_init_80 ?_
  exact V.vret rfl d_Da_init_83 ⟨rfl, rfl⟩

theorem ki_Da_init : MOk m_Da_init 2 ∧ Cond.instanceMethod m_Da_init.1 ∈ tblG := ⟨⟨atG 270 (by decide +kernel) rfl, atG 116 (by decide +kernel) rfl, ⟨by decide, by decide⟩, by decide +kernel, by decide⟩, atG 269 (by decide +kernel) rfl⟩
theorem lk_Sh_51 : Cond.methodLink "ShadeTown" 51 ⟨"ShadeTown$Day", "<init>", "(LShadeTown$Town;LShadeTown$Law;)V"⟩ ∈ tblG := atG 268 (by decide +kernel) rfl
theorem d_Sh_init_96 : decode prog_1_method_1_code 96 = .ok (.invokespecial 51, 3) := by decide +kernel
theorem d_Sh_init_99 : decode prog_1_method_1_code 99 = .ok (.putfield 54, 3) := by decide +kernel
theorem d_Sh_init_102 : decode prog_1_method_1_code 102 = .ok (.aload_n 0, 1) := by decide +kernel
theorem cw_Sh_58 : Cond.classLink "ShadeTown" 58 "ShadeTown$Strips" ∈ tblG := atG 307 (by decide +kernel) rfl
theorem iw_St : Cond.instantiable "ShadeTown$Strips" 4 ∈ tblG ∧ Cond.initialized "ShadeTown$Strips" ∈ tblG := ⟨atG 308 (by decide +kernel) rfl, atG 117 (by decide +kernel) rfl⟩
theorem d_Sh_init_103 : decode prog_1_method_1_code 103 = .ok (.new 58, 3) := by decide +kernel
theorem d_Sh_init_106 : decode prog_1_method_1_code 106 = .ok (.dup, 1) := by decide +kernel
abbrev m_St_init : MI := (⟨"ShadeTown$Strips", "<init>", "()V"⟩, prog_7_method_1_code, 1, (Option.none : Option Jvm.ClassFile.FieldType))
theorem d_St_init_0 : decode prog_7_method_1_code 0 = .ok (.aload_n 0, 1) := by decide +kernel
theorem lk_St_3 : Cond.methodLink "ShadeTown$Strips" 3 ⟨"java/lang/Object", "<init>", "()V"⟩ ∈ tblG := atG 312 (by decide +kernel) rfl
theorem d_St_init_1 : decode prog_7_method_1_code 1 = .ok (.invokespecial 3, 3) := by decide +kernel
theorem d_St_init_4 : decode prog_7_method_1_code 4 = .ok (.aload_n 0, 1) := by decide +kernel
theorem d_St_init_5 : decode prog_7_method_1_code 5 = .ok (.sipush 1728, 3) := by decide +kernel
theorem d_St_init_8 : decode prog_7_method_1_code 8 = .ok (.newarray .int, 2) := by decide +kernel
theorem d_St_init_10 : decode prog_7_method_1_code 10 = .ok (.putfield 11, 3) := by decide +kernel
theorem d_St_init_13 : decode prog_7_method_1_code 13 = .ok (.aload_n 0, 1) := by decide +kernel
theorem d_St_init_14 : decode prog_7_method_1_code 14 = .ok (.bipush 12, 2) := by decide +kernel
theorem d_St_init_16 : decode prog_7_method_1_code 16 = .ok (.newarray .int, 2) := by decide +kernel
theorem d_St_init_18 : decode prog_7_method_1_code 18 = .ok (.putfield 15, 3) := by decide +kernel
theorem d_St_init_21 : decode prog_7_method_1_code 21 = .ok (.aload_n 0, 1) := by decide +kernel
theorem d_St_init_22 : decode prog_7_method_1_code 22 = .ok (.iconst 0, 1) := by decide +kernel
theorem d_St_init_23 : decode prog_7_method_1_code 23 = .ok (.putfield 18, 3) := by decide +kernel
theorem d_St_init_26 : decode prog_7_method_1_code 26 = .ok (.aload_n 0, 1) := by decide +kernel
theorem d_St_init_27 : decode prog_7_method_1_code 27 = .ok (.ldc 22, 2) := by decide +kernel
theorem d_St_init_29 : decode prog_7_method_1_code 29 = .ok (.putfield 23, 3) := by decide +kernel
theorem d_St_init_32 : decode prog_7_method_1_code 32 = .ok (.return_, 1) := by decide +kernel
def g_St_init_41 (σ : Mem) : Mem := sI (sI (sR (zr (sR (zr (σ) 42) 41 0 43) 43) 41 1 44) 41 2 0) 41 3 268435456
set_option maxHeartbeats 4000000 in
set_option maxRecDepth 100000 in
theorem c_St_init_41 (Z : ZX) (σ : Mem) : Ct (mkB0 Z) 1 m_St_init [rf0 Z 41] 42 σ 2 1740 (fun v t => v = none ∧ t = g_St_init_41 σ) := by
  refine Ct.ofM (by decide +kernel) (Nat.le_of_ble_eq_true rfl) (fun Y hR => ?_)
  show V (mkB0 Z) Y m_St_init 1 (QP (mkB0 Z) Y 44 2 1740 (fun v t => v = none ∧ t = g_St_init_41 σ)) 0 0 42 σ 0 [(0, rf0 Z 41)] []
  refine V.aload_n d_St_init_0 rfl 0 rfl ?_
  refine V.oinit lk_St_3 (by decide) (Nat.le_of_ble_eq_true rfl) d_St_init_1 ?_
  refine V.aload_n d_St_init_4 rfl 0 rfl ?_
  refine V.sipush (v := 1728) d_St_init_5 (by decide) ?_
  refine V.newA (atype := .int) (ty := .int) (t := 0) (N := 1728) rfl aw_int rfl (fun _ h => h) rfl (fun _ => rfl) (by decide) (by decide) (by decide) (fun R h => by rw [← h, hR]; exact ⟨Nat.le_of_ble_eq_true rfl, Nat.le_of_ble_eq_true rfl⟩) d_St_init_8 ?_
  refine V.putF (r := 42) ok_St fl_St_11 (by decide) (by decide) rfl rfl rfl rfl rfl (fun _ => rfl) (fun _ => rfl) d_St_init_10 ?_
  refine V.aload_n d_St_init_13 rfl 0 rfl ?_
  refine V.bipush (v := 12) d_St_init_14 (by decide) ?_
  refine V.newA (atype := .int) (ty := .int) (t := 0) (N := 12) rfl aw_int rfl (fun _ h => h) rfl (fun _ => rfl) (by decide) (by decide) (by decide) (fun R h => by rw [← h, hR]; exact ⟨Nat.le_of_ble_eq_true rfl, Nat.le_of_ble_eq_true rfl⟩) d_St_init_16 ?_
  refine V.putF (r := 43) ok_St fl_St_15 (by decide) (by decide) rfl rfl rfl rfl rfl (fun _ => rfl) (fun _ => rfl) d_St_init_18 ?_
  refine V.aload_n d_St_init_21 rfl 0 rfl ?_
  refine V.iconst (v := 0) d_St_init_22 (by decide) ?_
  refine V.putI ok_St fl_St_18 (by decide) (by decide) rfl rfl rfl rfl rfl d_St_init_23 ?_
  refine V.aload_n d_St_init_26 rfl 0 rfl ?_
  refine V.ldc (v := 268435456) kc_St_22 d_St_init_27 ?_
  refine V.putI ok_St fl_St_23 (by decide) (by decide) rfl rfl rfl rfl rfl d_St_init_29 ?_
  exact V.vret rfl d_St_init_32 ⟨rfl, rfl⟩

theorem ki_St_init : MOk m_St_init 0 ∧ Cond.instanceMethod m_St_init.1 ∈ tblG := ⟨⟨atG 311 (by decide +kernel) rfl, atG 117 (by decide +kernel) rfl, ⟨by decide, by decide⟩, by decide +kernel, by decide⟩, atG 310 (by decide +kernel) rfl⟩
theorem ln_Sh_60 : Cond.methodLinkNest "ShadeTown" 60 ⟨"ShadeTown$Strips", "<init>", "()V"⟩ "ShadeTown" ∈ nestW := List.mem_of_getElem? (i := 3) rfl
theorem d_Sh_init_107 : decode prog_1_method_1_code 107 = .ok (.invokespecial 60, 3) := by decide +kernel
theorem d_Sh_init_110 : decode prog_1_method_1_code 110 = .ok (.putfield 61, 3) := by decide +kernel
theorem d_Sh_init_113 : decode prog_1_method_1_code 113 = .ok (.aload_n 0, 1) := by decide +kernel
theorem cw_Sh_65 : Cond.classLink "ShadeTown" 65 "ShadeTown$Walks" ∈ tblG := atG 327 (by decide +kernel) rfl
theorem iw_Wa : Cond.instantiable "ShadeTown$Walks" 2 ∈ tblG ∧ Cond.initialized "ShadeTown$Walks" ∈ tblG := ⟨atG 328 (by decide +kernel) rfl, atG 118 (by decide +kernel) rfl⟩
theorem d_Sh_init_114 : decode prog_1_method_1_code 114 = .ok (.new 65, 3) := by decide +kernel
theorem d_Sh_init_117 : decode prog_1_method_1_code 117 = .ok (.dup, 1) := by decide +kernel
abbrev m_Wa_init : MI := (⟨"ShadeTown$Walks", "<init>", "()V"⟩, prog_10_method_1_code, 1, (Option.none : Option Jvm.ClassFile.FieldType))
theorem d_Wa_init_0 : decode prog_10_method_1_code 0 = .ok (.aload_n 0, 1) := by decide +kernel
theorem lk_Wa_3 : Cond.methodLink "ShadeTown$Walks" 3 ⟨"java/lang/Object", "<init>", "()V"⟩ ∈ tblG := atG 332 (by decide +kernel) rfl
theorem d_Wa_init_1 : decode prog_10_method_1_code 1 = .ok (.invokespecial 3, 3) := by decide +kernel
theorem d_Wa_init_4 : decode prog_10_method_1_code 4 = .ok (.aload_n 0, 1) := by decide +kernel
theorem d_Wa_init_5 : decode prog_10_method_1_code 5 = .ok (.sipush 144, 3) := by decide +kernel
theorem d_Wa_init_8 : decode prog_10_method_1_code 8 = .ok (.newarray .int, 2) := by decide +kernel
theorem d_Wa_init_10 : decode prog_10_method_1_code 10 = .ok (.putfield 9, 3) := by decide +kernel
theorem d_Wa_init_13 : decode prog_10_method_1_code 13 = .ok (.aload_n 0, 1) := by decide +kernel
theorem d_Wa_init_14 : decode prog_10_method_1_code 14 = .ok (.sipush 144, 3) := by decide +kernel
theorem d_Wa_init_17 : decode prog_10_method_1_code 17 = .ok (.newarray .int, 2) := by decide +kernel
theorem d_Wa_init_19 : decode prog_10_method_1_code 19 = .ok (.putfield 15, 3) := by decide +kernel
theorem d_Wa_init_22 : decode prog_10_method_1_code 22 = .ok (.return_, 1) := by decide +kernel
def g_Wa_init_44 (σ : Mem) : Mem := sR (zr (sR (zr (σ) 45) 44 0 46) 46) 44 1 47
set_option maxHeartbeats 4000000 in
set_option maxRecDepth 100000 in
theorem c_Wa_init_44 (Z : ZX) (σ : Mem) : Ct (mkB0 Z) 1 m_Wa_init [rf0 Z 44] 45 σ 2 288 (fun v t => v = none ∧ t = g_Wa_init_44 σ) := by
  refine Ct.ofM (by decide +kernel) (Nat.le_of_ble_eq_true rfl) (fun Y hR => ?_)
  show V (mkB0 Z) Y m_Wa_init 1 (QP (mkB0 Z) Y 47 2 288 (fun v t => v = none ∧ t = g_Wa_init_44 σ)) 0 0 45 σ 0 [(0, rf0 Z 44)] []
  refine V.aload_n d_Wa_init_0 rfl 0 rfl ?_
  refine V.oinit lk_Wa_3 (by decide) (Nat.le_of_ble_eq_true rfl) d_Wa_init_1 ?_
  refine V.aload_n d_Wa_init_4 rfl 0 rfl ?_
  refine V.sipush (v := 144) d_Wa_init_5 (by decide) ?_
  refine V.newA (atype := .int) (ty := .int) (t := 0) (N := 144) rfl aw_int rfl (fun _ h => h) rfl (fun _ => rfl) (by decide) (by decide) (by decide) (fun R h => by rw [← h, hR]; exact ⟨Nat.le_of_ble_eq_true rfl, Nat.le_of_ble_eq_true rfl⟩) d_Wa_init_8 ?_
  refine V.putM (r := 45) ok_Wa fl_Wa_9 (by decide) (by decide) rfl rfl rfl (fun _ => rfl) (fun _ => rfl) d_Wa_init_10 ?_
  refine V.aload_n d_Wa_init_13 rfl 0 rfl ?_
  refine V.sipush (v := 144) d_Wa_init_14 (by decide) ?_
  refine V.newA (atype := .int) (ty := .int) (t := 0) (N := 144) rfl aw_int rfl (fun _ h => h) rfl (fun _ => rfl) (by decide) (by decide) (by decide) (fun R h => by rw [← h, hR]; exact ⟨Nat.le_of_ble_eq_true rfl, Nat.le_of_ble_eq_true rfl⟩) d_Wa_init_17 ?_
  refine V.putM (r := 46) ok_Wa fl_Wa_15 (by decide) (by decide) rfl rfl rfl (fun _ => rfl) (fun _ => rfl) d_Wa_init_19 ?_
  exact V.vret rfl d_Wa_init_22 ⟨rfl, rfl⟩

theorem ki_Wa_init : MOk m_Wa_init 0 ∧ Cond.instanceMethod m_Wa_init.1 ∈ tblG := ⟨⟨atG 331 (by decide +kernel) rfl, atG 118 (by decide +kernel) rfl, ⟨by decide, by decide⟩, by decide +kernel, by decide⟩, atG 330 (by decide +kernel) rfl⟩
theorem ln_Sh_67 : Cond.methodLinkNest "ShadeTown" 67 ⟨"ShadeTown$Walks", "<init>", "()V"⟩ "ShadeTown" ∈ nestW := List.mem_of_getElem? (i := 4) rfl
theorem d_Sh_init_118 : decode prog_1_method_1_code 118 = .ok (.invokespecial 67, 3) := by decide +kernel
theorem d_Sh_init_121 : decode prog_1_method_1_code 121 = .ok (.putfield 68, 3) := by decide +kernel
theorem d_Sh_init_124 : decode prog_1_method_1_code 124 = .ok (.aload_n 0, 1) := by decide +kernel
theorem cw_Sh_72 : Cond.classLink "ShadeTown" 72 "ShadeTown$Market" ∈ tblG := atG 340 (by decide +kernel) rfl
theorem iw_Ma : Cond.instantiable "ShadeTown$Market" 11 ∈ tblG ∧ Cond.initialized "ShadeTown$Market" ∈ tblG := ⟨atG 341 (by decide +kernel) rfl, atG 119 (by decide +kernel) rfl⟩
theorem d_Sh_init_125 : decode prog_1_method_1_code 125 = .ok (.new 72, 3) := by decide +kernel
theorem d_Sh_init_128 : decode prog_1_method_1_code 128 = .ok (.dup, 1) := by decide +kernel
abbrev m_Ma_init : MI := (⟨"ShadeTown$Market", "<init>", "()V"⟩, prog_6_method_1_code, 1, (Option.none : Option Jvm.ClassFile.FieldType))
theorem d_Ma_init_0 : decode prog_6_method_1_code 0 = .ok (.aload_n 0, 1) := by decide +kernel
theorem lk_Ma_5 : Cond.methodLink "ShadeTown$Market" 5 ⟨"java/lang/Object", "<init>", "()V"⟩ ∈ tblG := atG 345 (by decide +kernel) rfl
theorem d_Ma_init_1 : decode prog_6_method_1_code 1 = .ok (.invokespecial 5, 3) := by decide +kernel
theorem d_Ma_init_4 : decode prog_6_method_1_code 4 = .ok (.aload_n 0, 1) := by decide +kernel
theorem d_Ma_init_5 : decode prog_6_method_1_code 5 = .ok (.bipush 8, 2) := by decide +kernel
theorem d_Ma_init_7 : decode prog_6_method_1_code 7 = .ok (.newarray .int, 2) := by decide +kernel
theorem d_Ma_init_9 : decode prog_6_method_1_code 9 = .ok (.putfield 11, 3) := by decide +kernel
theorem d_Ma_init_12 : decode prog_6_method_1_code 12 = .ok (.aload_n 0, 1) := by decide +kernel
theorem d_Ma_init_13 : decode prog_6_method_1_code 13 = .ok (.iconst 0, 1) := by decide +kernel
theorem d_Ma_init_14 : decode prog_6_method_1_code 14 = .ok (.putfield 15, 3) := by decide +kernel
theorem d_Ma_init_17 : decode prog_6_method_1_code 17 = .ok (.aload_n 0, 1) := by decide +kernel
theorem d_Ma_init_18 : decode prog_6_method_1_code 18 = .ok (.bipush 64, 2) := by decide +kernel
theorem d_Ma_init_20 : decode prog_6_method_1_code 20 = .ok (.newarray .int, 2) := by decide +kernel
theorem d_Ma_init_22 : decode prog_6_method_1_code 22 = .ok (.putfield 19, 3) := by decide +kernel
theorem d_Ma_init_25 : decode prog_6_method_1_code 25 = .ok (.aload_n 0, 1) := by decide +kernel
theorem d_Ma_init_26 : decode prog_6_method_1_code 26 = .ok (.bipush 64, 2) := by decide +kernel
theorem d_Ma_init_28 : decode prog_6_method_1_code 28 = .ok (.newarray .int, 2) := by decide +kernel
theorem d_Ma_init_30 : decode prog_6_method_1_code 30 = .ok (.putfield 22, 3) := by decide +kernel
theorem d_Ma_init_33 : decode prog_6_method_1_code 33 = .ok (.aload_n 0, 1) := by decide +kernel
theorem d_Ma_init_34 : decode prog_6_method_1_code 34 = .ok (.bipush 8, 2) := by decide +kernel
theorem d_Ma_init_36 : decode prog_6_method_1_code 36 = .ok (.newarray .int, 2) := by decide +kernel
theorem d_Ma_init_38 : decode prog_6_method_1_code 38 = .ok (.putfield 25, 3) := by decide +kernel
theorem d_Ma_init_41 : decode prog_6_method_1_code 41 = .ok (.aload_n 0, 1) := by decide +kernel
theorem d_Ma_init_42 : decode prog_6_method_1_code 42 = .ok (.bipush 8, 2) := by decide +kernel
theorem d_Ma_init_44 : decode prog_6_method_1_code 44 = .ok (.newarray .int, 2) := by decide +kernel
theorem d_Ma_init_46 : decode prog_6_method_1_code 46 = .ok (.putfield 28, 3) := by decide +kernel
theorem d_Ma_init_49 : decode prog_6_method_1_code 49 = .ok (.aload_n 0, 1) := by decide +kernel
theorem d_Ma_init_50 : decode prog_6_method_1_code 50 = .ok (.bipush 8, 2) := by decide +kernel
theorem aw_long : Cond.arrayClass .long ∈ tblG := atG 380 (by decide +kernel) rfl
theorem d_Ma_init_52 : decode prog_6_method_1_code 52 = .ok (.newarray .long, 2) := by decide +kernel
theorem d_Ma_init_54 : decode prog_6_method_1_code 54 = .ok (.putfield 31, 3) := by decide +kernel
theorem d_Ma_init_57 : decode prog_6_method_1_code 57 = .ok (.aload_n 0, 1) := by decide +kernel
theorem d_Ma_init_58 : decode prog_6_method_1_code 58 = .ok (.sipush 256, 3) := by decide +kernel
theorem d_Ma_init_61 : decode prog_6_method_1_code 61 = .ok (.newarray .long, 2) := by decide +kernel
theorem d_Ma_init_63 : decode prog_6_method_1_code 63 = .ok (.putfield 35, 3) := by decide +kernel
theorem d_Ma_init_66 : decode prog_6_method_1_code 66 = .ok (.aload_n 0, 1) := by decide +kernel
theorem d_Ma_init_67 : decode prog_6_method_1_code 67 = .ok (.bipush 8, 2) := by decide +kernel
theorem d_Ma_init_69 : decode prog_6_method_1_code 69 = .ok (.newarray .int, 2) := by decide +kernel
theorem d_Ma_init_71 : decode prog_6_method_1_code 71 = .ok (.putfield 38, 3) := by decide +kernel
theorem d_Ma_init_74 : decode prog_6_method_1_code 74 = .ok (.aload_n 0, 1) := by decide +kernel
theorem d_Ma_init_75 : decode prog_6_method_1_code 75 = .ok (.iconst 0, 1) := by decide +kernel
theorem d_Ma_init_76 : decode prog_6_method_1_code 76 = .ok (.putfield 41, 3) := by decide +kernel
theorem d_Ma_init_79 : decode prog_6_method_1_code 79 = .ok (.aload_n 0, 1) := by decide +kernel
theorem d_Ma_init_80 : decode prog_6_method_1_code 80 = .ok (.lconst 0, 1) := by decide +kernel
theorem d_Ma_init_81 : decode prog_6_method_1_code 81 = .ok (.putfield 44, 3) := by decide +kernel
theorem d_Ma_init_84 : decode prog_6_method_1_code 84 = .ok (.return_, 1) := by decide +kernel
def g_Ma_init_47 (σ : Mem) : Mem := sL (sI (sR (zr (sR (zr (sR (zr (sR (zr (sR (zr (sR (zr (sR (zr (sI (sR (zr (σ) 48) 47 0 49) 47 1 0) 49) 47 2 50) 50) 47 3 51) 51) 47 4 52) 52) 47 5 53) 53) 47 6 54) 54) 47 7 55) 55) 47 8 56) 47 9 0) 47 10 0
set_option maxHeartbeats 4000000 in
set_option maxRecDepth 100000 in
theorem c_Ma_init_47 (Z : ZX) (σ : Mem) : Ct (mkB0 Z) 1 m_Ma_init [rf0 Z 47] 48 σ 8 424 (fun v t => v = none ∧ t = g_Ma_init_47 σ) := by
  refine Ct.ofM (by decide +kernel) (Nat.le_of_ble_eq_true rfl) (fun Y hR => ?_)
  show V (mkB0 Z) Y m_Ma_init 1 (QP (mkB0 Z) Y 56 8 424 (fun v t => v = none ∧ t = g_Ma_init_47 σ)) 0 0 48 σ 0 [(0, rf0 Z 47)] []
  refine V.aload_n d_Ma_init_0 rfl 0 rfl ?_
  refine V.oinit lk_Ma_5 (by decide) (Nat.le_of_ble_eq_true rfl) d_Ma_init_1 ?_
  refine V.aload_n d_Ma_init_4 rfl 0 rfl ?_
  refine V.bipush (v := 8) d_Ma_init_5 (by decide) ?_
  refine V.newA (atype := .int) (ty := .int) (t := 0) (N := 8) rfl aw_int rfl (fun _ h => h) rfl (fun _ => rfl) (by decide) (by decide) (by decide) (fun R h => by rw [← h, hR]; exact ⟨Nat.le_of_ble_eq_true rfl, Nat.le_of_ble_eq_true rfl⟩) d_Ma_init_7 ?_
  refine V.putF (r := 48) ok_Ma fl_Ma_11 (by decide) (by decide) rfl rfl rfl rfl rfl (fun _ => rfl) (fun _ => rfl) d_Ma_init_9 ?_
  refine V.aload_n d_Ma_init_12 rfl 0 rfl ?_
  refine V.iconst (v := 0) d_Ma_init_13 (by decide) ?_
  refine V.putI ok_Ma fl_Ma_15 (by decide) (by decide) rfl rfl rfl rfl rfl d_Ma_init_14 ?_
  refine V.aload_n d_Ma_init_17 rfl 0 rfl ?_
  refine V.bipush (v := 64) d_Ma_init_18 (by decide) ?_
  refine V.newA (atype := .int) (ty := .int) (t := 0) (N := 64) rfl aw_int rfl (fun _ h => h) rfl (fun _ => rfl) (by decide) (by decide) (by decide) (fun R h => by rw [← h, hR]; exact ⟨Nat.le_of_ble_eq_true rfl, Nat.le_of_ble_eq_true rfl⟩) d_Ma_init_20 ?_
  refine V.putF (r := 49) ok_Ma fl_Ma_19 (by decide) (by decide) rfl rfl rfl rfl rfl (fun _ => rfl) (fun _ => rfl) d_Ma_init_22 ?_
  refine V.aload_n d_Ma_init_25 rfl 0 rfl ?_
  refine V.bipush (v := 64) d_Ma_init_26 (by decide) ?_
  refine V.newA (atype := .int) (ty := .int) (t := 0) (N := 64) rfl aw_int rfl (fun _ h => h) rfl (fun _ => rfl) (by decide) (by decide) (by decide) (fun R h => by rw [← h, hR]; exact ⟨Nat.le_of_ble_eq_true rfl, Nat.le_of_ble_eq_true rfl⟩) d_Ma_init_28 ?_
  refine V.putF (r := 50) ok_Ma fl_Ma_22 (by decide) (by decide) rfl rfl rfl rfl rfl (fun _ => rfl) (fun _ => rfl) d_Ma_init_30 ?_
  refine V.aload_n d_Ma_init_33 rfl 0 rfl ?_
  refine V.bipush (v := 8) d_Ma_init_34 (by decide) ?_
  refine V.newA (atype := .int) (ty := .int) (t := 0) (N := 8) rfl aw_int rfl (fun _ h => h) rfl (fun _ => rfl) (by decide) (by decide) (by decide) (fun R h => by rw [← h, hR]; exact ⟨Nat.le_of_ble_eq_true rfl, Nat.le_of_ble_eq_true rfl⟩) d_Ma_init_36 ?_
  refine V.putF (r := 51) ok_Ma fl_Ma_25 (by decide) (by decide) rfl rfl rfl rfl rfl (fun _ => rfl) (fun _ => rfl) d_Ma_init_38 ?_
  refine V.aload_n d_Ma_init_41 rfl 0 rfl ?_
  refine V.bipush (v := 8) d_Ma_init_42 (by decide) ?_
  refine V.newA (atype := .int) (ty := .int) (t := 0) (N := 8) rfl aw_int rfl (fun _ h => h) rfl (fun _ => rfl) (by decide) (by decide) (by decide) (fun R h => by rw [← h, hR]; exact ⟨Nat.le_of_ble_eq_true rfl, Nat.le_of_ble_eq_true rfl⟩) d_Ma_init_44 ?_
  refine V.putF (r := 52) ok_Ma fl_Ma_28 (by decide) (by decide) rfl rfl rfl rfl rfl (fun _ => rfl) (fun _ => rfl) d_Ma_init_46 ?_
  refine V.aload_n d_Ma_init_49 rfl 0 rfl ?_
  refine V.bipush (v := 8) d_Ma_init_50 (by decide) ?_
  refine V.newA (atype := .long) (ty := .long) (t := 2) (N := 8) rfl aw_long rfl (fun _ h => h) rfl (fun _ => rfl) (by decide) (by decide) (by decide) (fun R h => by rw [← h, hR]; exact ⟨Nat.le_of_ble_eq_true rfl, Nat.le_of_ble_eq_true rfl⟩) d_Ma_init_52 ?_
  refine V.putF (r := 53) ok_Ma fl_Ma_31 (by decide) (by decide) rfl rfl rfl rfl rfl (fun _ => rfl) (fun _ => rfl) d_Ma_init_54 ?_
  refine V.aload_n d_Ma_init_57 rfl 0 rfl ?_
  refine V.sipush (v := 256) d_Ma_init_58 (by decide) ?_
  refine V.newA (atype := .long) (ty := .long) (t := 2) (N := 256) rfl aw_long rfl (fun _ h => h) rfl (fun _ => rfl) (by decide) (by decide) (by decide) (fun R h => by rw [← h, hR]; exact ⟨Nat.le_of_ble_eq_true rfl, Nat.le_of_ble_eq_true rfl⟩) d_Ma_init_61 ?_
  refine V.putF (r := 54) ok_Ma fl_Ma_35 (by decide) (by decide) rfl rfl rfl rfl rfl (fun _ => rfl) (fun _ => rfl) d_Ma_init_63 ?_
  refine V.aload_n d_Ma_init_66 rfl 0 rfl ?_
  refine V.bipush (v := 8) d_Ma_init_67 (by decide) ?_
  refine V.newA (atype := .int) (ty := .int) (t := 0) (N := 8) rfl aw_int rfl (fun _ h => h) rfl (fun _ => rfl) (by decide) (by decide) (by decide) (fun R h => by rw [← h, hR]; exact ⟨Nat.le_of_ble_eq_true rfl, Nat.le_of_ble_eq_true rfl⟩) d_Ma_init_69 ?_
  refine V.putF (r := 55) ok_Ma fl_Ma_38 (by decide) (by decide) rfl rfl rfl rfl rfl (fun _ => rfl) (fun _ => rfl) d_Ma_init_71 ?_
  refine V.aload_n d_Ma_init_74 rfl 0 rfl ?_
  refine V.iconst (v := 0) d_Ma_init_75 (by decide) ?_
  refine V.putI ok_Ma fl_Ma_41 (by decide) (by decide) rfl rfl rfl rfl rfl d_Ma_init_76 ?_
  refine V.aload_n d_Ma_init_79 rfl 0 rfl ?_
  refine V.lconst (v := 0) d_Ma_init_80 (by decide) ?_
  refine V.putL ok_Ma fl_Ma_44 (by decide) (by decide) rfl rfl rfl rfl rfl d_Ma_init_81 ?_
  exact V.vret rfl d_Ma_init_84 ⟨rfl, rfl⟩

theorem ki_Ma_init : MOk m_Ma_init 0 ∧ Cond.instanceMethod m_Ma_init.1 ∈ tblG := ⟨⟨atG 344 (by decide +kernel) rfl, atG 119 (by decide +kernel) rfl, ⟨by decide, by decide⟩, by decide +kernel, by decide⟩, atG 343 (by decide +kernel) rfl⟩
theorem ln_Sh_74 : Cond.methodLinkNest "ShadeTown" 74 ⟨"ShadeTown$Market", "<init>", "()V"⟩ "ShadeTown" ∈ nestW := List.mem_of_getElem? (i := 5) rfl
theorem d_Sh_init_129 : decode prog_1_method_1_code 129 = .ok (.invokespecial 74, 3) := by decide +kernel
theorem d_Sh_init_132 : decode prog_1_method_1_code 132 = .ok (.putfield 75, 3) := by decide +kernel
theorem d_Sh_init_135 : decode prog_1_method_1_code 135 = .ok (.aload_n 0, 1) := by decide +kernel
theorem cw_Sh_79 : Cond.classLink "ShadeTown" 79 "ShadeTown$Wishes" ∈ tblG := atG 381 (by decide +kernel) rfl
theorem iw_Wi : Cond.instantiable "ShadeTown$Wishes" 7 ∈ tblG ∧ Cond.initialized "ShadeTown$Wishes" ∈ tblG := ⟨atG 382 (by decide +kernel) rfl, atG 120 (by decide +kernel) rfl⟩
theorem d_Sh_init_136 : decode prog_1_method_1_code 136 = .ok (.new 79, 3) := by decide +kernel
theorem d_Sh_init_139 : decode prog_1_method_1_code 139 = .ok (.dup, 1) := by decide +kernel
abbrev m_Wi_init : MI := (⟨"ShadeTown$Wishes", "<init>", "()V"⟩, prog_11_method_1_code, 1, (Option.none : Option Jvm.ClassFile.FieldType))
theorem d_Wi_init_0 : decode prog_11_method_1_code 0 = .ok (.aload_n 0, 1) := by decide +kernel
theorem lk_Wi_3 : Cond.methodLink "ShadeTown$Wishes" 3 ⟨"java/lang/Object", "<init>", "()V"⟩ ∈ tblG := atG 386 (by decide +kernel) rfl
theorem d_Wi_init_1 : decode prog_11_method_1_code 1 = .ok (.invokespecial 3, 3) := by decide +kernel
theorem d_Wi_init_4 : decode prog_11_method_1_code 4 = .ok (.aload_n 0, 1) := by decide +kernel
theorem d_Wi_init_5 : decode prog_11_method_1_code 5 = .ok (.iconst 0, 1) := by decide +kernel
theorem d_Wi_init_6 : decode prog_11_method_1_code 6 = .ok (.putfield 9, 3) := by decide +kernel
theorem d_Wi_init_9 : decode prog_11_method_1_code 9 = .ok (.aload_n 0, 1) := by decide +kernel
theorem d_Wi_init_10 : decode prog_11_method_1_code 10 = .ok (.bipush 16, 2) := by decide +kernel
theorem d_Wi_init_12 : decode prog_11_method_1_code 12 = .ok (.newarray .int, 2) := by decide +kernel
theorem d_Wi_init_14 : decode prog_11_method_1_code 14 = .ok (.putfield 15, 3) := by decide +kernel
theorem d_Wi_init_17 : decode prog_11_method_1_code 17 = .ok (.aload_n 0, 1) := by decide +kernel
theorem d_Wi_init_18 : decode prog_11_method_1_code 18 = .ok (.bipush 16, 2) := by decide +kernel
theorem d_Wi_init_20 : decode prog_11_method_1_code 20 = .ok (.newarray .int, 2) := by decide +kernel
theorem d_Wi_init_22 : decode prog_11_method_1_code 22 = .ok (.putfield 19, 3) := by decide +kernel
theorem d_Wi_init_25 : decode prog_11_method_1_code 25 = .ok (.aload_n 0, 1) := by decide +kernel
theorem d_Wi_init_26 : decode prog_11_method_1_code 26 = .ok (.bipush 16, 2) := by decide +kernel
theorem d_Wi_init_28 : decode prog_11_method_1_code 28 = .ok (.newarray .int, 2) := by decide +kernel
theorem d_Wi_init_30 : decode prog_11_method_1_code 30 = .ok (.putfield 22, 3) := by decide +kernel
theorem d_Wi_init_33 : decode prog_11_method_1_code 33 = .ok (.aload_n 0, 1) := by decide +kernel
theorem d_Wi_init_34 : decode prog_11_method_1_code 34 = .ok (.bipush 16, 2) := by decide +kernel
theorem d_Wi_init_36 : decode prog_11_method_1_code 36 = .ok (.newarray .boolean, 2) := by decide +kernel
theorem d_Wi_init_38 : decode prog_11_method_1_code 38 = .ok (.putfield 25, 3) := by decide +kernel
theorem d_Wi_init_41 : decode prog_11_method_1_code 41 = .ok (.aload_n 0, 1) := by decide +kernel
theorem d_Wi_init_42 : decode prog_11_method_1_code 42 = .ok (.bipush 16, 2) := by decide +kernel
theorem d_Wi_init_44 : decode prog_11_method_1_code 44 = .ok (.newarray .int, 2) := by decide +kernel
theorem d_Wi_init_46 : decode prog_11_method_1_code 46 = .ok (.putfield 29, 3) := by decide +kernel
theorem d_Wi_init_49 : decode prog_11_method_1_code 49 = .ok (.aload_n 0, 1) := by decide +kernel
theorem d_Wi_init_50 : decode prog_11_method_1_code 50 = .ok (.sipush 144, 3) := by decide +kernel
theorem d_Wi_init_53 : decode prog_11_method_1_code 53 = .ok (.newarray .int, 2) := by decide +kernel
theorem d_Wi_init_55 : decode prog_11_method_1_code 55 = .ok (.putfield 32, 3) := by decide +kernel
theorem d_Wi_init_58 : decode prog_11_method_1_code 58 = .ok (.return_, 1) := by decide +kernel
def g_Wi_init_56 (σ : Mem) : Mem := sR (zr (sR (zr (sR (zr (sR (zr (sR (zr (sR (zr (sI (σ) 56 0 0) 57) 56 1 58) 58) 56 2 59) 59) 56 3 60) 60) 56 4 61) 61) 56 5 62) 62) 56 6 63
set_option maxHeartbeats 4000000 in
set_option maxRecDepth 100000 in
theorem c_Wi_init_56 (Z : ZX) (σ : Mem) : Ct (mkB0 Z) 1 m_Wi_init [rf0 Z 56] 57 σ 6 224 (fun v t => v = none ∧ t = g_Wi_init_56 σ) := by
  refine Ct.ofM (by decide +kernel) (Nat.le_of_ble_eq_true rfl) (fun Y hR => ?_)
  show V (mkB0 Z) Y m_Wi_init 1 (QP (mkB0 Z) Y 63 6 224 (fun v t => v = none ∧ t = g_Wi_init_56 σ)) 0 0 57 σ 0 [(0, rf0 Z 56)] []
  refine V.aload_n d_Wi_init_0 rfl 0 rfl ?_
  refine V.oinit lk_Wi_3 (by decide) (Nat.le_of_ble_eq_true rfl) d_Wi_init_1 ?_
  refine V.aload_n d_Wi_init_4 rfl 0 rfl ?_
  refine V.iconst (v := 0) d_Wi_init_5 (by decide) ?_
  refine V.putI ok_Wi fl_Wi_9 (by decide) (by decide) rfl rfl rfl rfl rfl d_Wi_init_6 ?_
  refine V.aload_n d_Wi_init_9 rfl 0 rfl ?_
  refine V.bipush (v := 16) d_Wi_init_10 (by decide) ?_
  refine V.newA (atype := .int) (ty := .int) (t := 0) (N := 16) rfl aw_int rfl (fun _ h => h) rfl (fun _ => rfl) (by decide) (by decide) (by decide) (fun R h => by rw [← h, hR]; exact ⟨Nat.le_of_ble_eq_true rfl, Nat.le_of_ble_eq_true rfl⟩) d_Wi_init_12 ?_
  refine V.putF (r := 57) ok_Wi fl_Wi_15 (by decide) (by decide) rfl rfl rfl rfl rfl (fun _ => rfl) (fun _ => rfl) d_Wi_init_14 ?_
  refine V.aload_n d_Wi_init_17 rfl 0 rfl ?_
  refine V.bipush (v := 16) d_Wi_init_18 (by decide) ?_
  refine V.newA (atype := .int) (ty := .int) (t := 0) (N := 16) rfl aw_int rfl (fun _ h => h) rfl (fun _ => rfl) (by decide) (by decide) (by decide) (fun R h => by rw [← h, hR]; exact ⟨Nat.le_of_ble_eq_true rfl, Nat.le_of_ble_eq_true rfl⟩) d_Wi_init_20 ?_
  refine V.putF (r := 58) ok_Wi fl_Wi_19 (by decide) (by decide) rfl rfl rfl rfl rfl (fun _ => rfl) (fun _ => rfl) d_Wi_init_22 ?_
  refine V.aload_n d_Wi_init_25 rfl 0 rfl ?_
  refine V.bipush (v := 16) d_Wi_init_26 (by decide) ?_
  refine V.newA (atype := .int) (ty := .int) (t := 0) (N := 16) rfl aw_int rfl (fun _ h => h) rfl (fun _ => rfl) (by decide) (by decide) (by decide) (fun R h => by rw [← h, hR]; exact ⟨Nat.le_of_ble_eq_true rfl, Nat.le_of_ble_eq_true rfl⟩) d_Wi_init_28 ?_
  refine V.putF (r := 59) ok_Wi fl_Wi_22 (by decide) (by decide) rfl rfl rfl rfl rfl (fun _ => rfl) (fun _ => rfl) d_Wi_init_30 ?_
  refine V.aload_n d_Wi_init_33 rfl 0 rfl ?_
  refine V.bipush (v := 16) d_Wi_init_34 (by decide) ?_
  refine V.newA (atype := .boolean) (ty := .boolean) (t := 1) (N := 16) rfl aw_boolean rfl (fun _ h => h) rfl (fun _ => rfl) (by decide) (by decide) (by decide) (fun R h => by rw [← h, hR]; exact ⟨Nat.le_of_ble_eq_true rfl, Nat.le_of_ble_eq_true rfl⟩) d_Wi_init_36 ?_
  refine V.putF (r := 60) ok_Wi fl_Wi_25 (by decide) (by decide) rfl rfl rfl rfl rfl (fun _ => rfl) (fun _ => rfl) d_Wi_init_38 ?_
  refine V.aload_n d_Wi_init_41 rfl 0 rfl ?_
  refine V.bipush (v := 16) d_Wi_init_42 (by decide) ?_
  refine V.newA (atype := .int) (ty := .int) (t := 0) (N := 16) rfl aw_int rfl (fun _ h => h) rfl (fun _ => rfl) (by decide) (by decide) (by decide) (fun R h => by rw [← h, hR]; exact ⟨Nat.le_of_ble_eq_true rfl, Nat.le_of_ble_eq_true rfl⟩) d_Wi_init_44 ?_
  refine V.putF (r := 61) ok_Wi fl_Wi_29 (by decide) (by decide) rfl rfl rfl rfl rfl (fun _ => rfl) (fun _ => rfl) d_Wi_init_46 ?_
  refine V.aload_n d_Wi_init_49 rfl 0 rfl ?_
  refine V.sipush (v := 144) d_Wi_init_50 (by decide) ?_
  refine V.newA (atype := .int) (ty := .int) (t := 0) (N := 144) rfl aw_int rfl (fun _ h => h) rfl (fun _ => rfl) (by decide) (by decide) (by decide) (fun R h => by rw [← h, hR]; exact ⟨Nat.le_of_ble_eq_true rfl, Nat.le_of_ble_eq_true rfl⟩) d_Wi_init_53 ?_
  refine V.putF (r := 62) ok_Wi fl_Wi_32 (by decide) (by decide) rfl rfl rfl rfl rfl (fun _ => rfl) (fun _ => rfl) d_Wi_init_55 ?_
  exact V.vret rfl d_Wi_init_58 ⟨rfl, rfl⟩

theorem ki_Wi_init : MOk m_Wi_init 0 ∧ Cond.instanceMethod m_Wi_init.1 ∈ tblG := ⟨⟨atG 385 (by decide +kernel) rfl, atG 120 (by decide +kernel) rfl, ⟨by decide, by decide⟩, by decide +kernel, by decide⟩, atG 384 (by decide +kernel) rfl⟩
theorem ln_Sh_81 : Cond.methodLinkNest "ShadeTown" 81 ⟨"ShadeTown$Wishes", "<init>", "()V"⟩ "ShadeTown" ∈ nestW := List.mem_of_getElem? (i := 6) rfl
theorem d_Sh_init_140 : decode prog_1_method_1_code 140 = .ok (.invokespecial 81, 3) := by decide +kernel
theorem d_Sh_init_143 : decode prog_1_method_1_code 143 = .ok (.putfield 82, 3) := by decide +kernel
theorem d_Sh_init_146 : decode prog_1_method_1_code 146 = .ok (.aload_n 0, 1) := by decide +kernel
theorem cw_Sh_86 : Cond.classLink "ShadeTown" 86 "ShadeTown$Clouds" ∈ tblG := atG 409 (by decide +kernel) rfl
theorem iw_Cl : Cond.instantiable "ShadeTown$Clouds" 1 ∈ tblG ∧ Cond.initialized "ShadeTown$Clouds" ∈ tblG := ⟨atG 410 (by decide +kernel) rfl, atG 121 (by decide +kernel) rfl⟩
theorem d_Sh_init_147 : decode prog_1_method_1_code 147 = .ok (.new 86, 3) := by decide +kernel
theorem d_Sh_init_150 : decode prog_1_method_1_code 150 = .ok (.dup, 1) := by decide +kernel
abbrev m_Cl_init : MI := (⟨"ShadeTown$Clouds", "<init>", "()V"⟩, prog_2_method_1_code, 1, (Option.none : Option Jvm.ClassFile.FieldType))
theorem d_Cl_init_0 : decode prog_2_method_1_code 0 = .ok (.aload_n 0, 1) := by decide +kernel
theorem lk_Cl_3 : Cond.methodLink "ShadeTown$Clouds" 3 ⟨"java/lang/Object", "<init>", "()V"⟩ ∈ tblG := atG 414 (by decide +kernel) rfl
theorem d_Cl_init_1 : decode prog_2_method_1_code 1 = .ok (.invokespecial 3, 3) := by decide +kernel
theorem d_Cl_init_4 : decode prog_2_method_1_code 4 = .ok (.aload_n 0, 1) := by decide +kernel
theorem d_Cl_init_5 : decode prog_2_method_1_code 5 = .ok (.sipush 144, 3) := by decide +kernel
theorem d_Cl_init_8 : decode prog_2_method_1_code 8 = .ok (.newarray .int, 2) := by decide +kernel
theorem d_Cl_init_10 : decode prog_2_method_1_code 10 = .ok (.putfield 9, 3) := by decide +kernel
theorem d_Cl_init_13 : decode prog_2_method_1_code 13 = .ok (.return_, 1) := by decide +kernel
def g_Cl_init_63 (σ : Mem) : Mem := sR (zr (σ) 64) 63 0 65
set_option maxHeartbeats 4000000 in
set_option maxRecDepth 100000 in
theorem c_Cl_init_63 (Z : ZX) (σ : Mem) : Ct (mkB0 Z) 1 m_Cl_init [rf0 Z 63] 64 σ 1 144 (fun v t => v = none ∧ t = g_Cl_init_63 σ) := by
  refine Ct.ofM (by decide +kernel) (Nat.le_of_ble_eq_true rfl) (fun Y hR => ?_)
  show V (mkB0 Z) Y m_Cl_init 1 (QP (mkB0 Z) Y 65 1 144 (fun v t => v = none ∧ t = g_Cl_init_63 σ)) 0 0 64 σ 0 [(0, rf0 Z 63)] []
  refine V.aload_n d_Cl_init_0 rfl 0 rfl ?_
  refine V.oinit lk_Cl_3 (by decide) (Nat.le_of_ble_eq_true rfl) d_Cl_init_1 ?_
  refine V.aload_n d_Cl_init_4 rfl 0 rfl ?_
  refine V.sipush (v := 144) d_Cl_init_5 (by decide) ?_
  refine V.newA (atype := .int) (ty := .int) (t := 0) (N := 144) rfl aw_int rfl (fun _ h => h) rfl (fun _ => rfl) (by decide) (by decide) (by decide) (fun R h => by rw [← h, hR]; exact ⟨Nat.le_of_ble_eq_true rfl, Nat.le_of_ble_eq_true rfl⟩) d_Cl_init_8 ?_
  refine V.putF (r := 64) ok_Cl fl_Cl_9 (by decide) (by decide) rfl rfl rfl rfl rfl (fun _ => rfl) (fun _ => rfl) d_Cl_init_10 ?_
  exact V.vret rfl d_Cl_init_13 ⟨rfl, rfl⟩

theorem ki_Cl_init : MOk m_Cl_init 0 ∧ Cond.instanceMethod m_Cl_init.1 ∈ tblG := ⟨⟨atG 413 (by decide +kernel) rfl, atG 121 (by decide +kernel) rfl, ⟨by decide, by decide⟩, by decide +kernel, by decide⟩, atG 412 (by decide +kernel) rfl⟩
theorem ln_Sh_88 : Cond.methodLinkNest "ShadeTown" 88 ⟨"ShadeTown$Clouds", "<init>", "()V"⟩ "ShadeTown" ∈ nestW := List.mem_of_getElem? (i := 7) rfl
theorem d_Sh_init_151 : decode prog_1_method_1_code 151 = .ok (.invokespecial 88, 3) := by decide +kernel
theorem d_Sh_init_154 : decode prog_1_method_1_code 154 = .ok (.putfield 89, 3) := by decide +kernel
theorem d_Sh_init_157 : decode prog_1_method_1_code 157 = .ok (.return_, 1) := by decide +kernel
def g_Sh_init_0 (σ : Mem) : Mem := sR (g_Cl_init_63 (zr (sR (g_Wi_init_56 (zr (sR (g_Ma_init_47 (zr (sR (g_Wa_init_44 (zr (sR (g_St_init_41 (zr (sR (g_Da_init_33 (zr (sI (sR (g_To_init_26 (zr (sR (g_To_init_19 (zr (sR (g_Rd_init_17 (zr (sR (g_La_init_10 (zr (sR (g_La_init_3 (zr (sR (g_Ta_init_1 (zr (σ) 1)) 0 0 2) 3)) 0 1 4) 10)) 0 2 11) 17)) 0 3 18) 19)) 0 4 20) 26)) 0 5 27) 0 6 0) 33)) 0 7 34) 41)) 0 8 42) 44)) 0 9 45) 47)) 0 10 48) 56)) 0 11 57) 63)) 0 12 64
set_option maxHeartbeats 4000000 in
set_option maxRecDepth 100000 in
theorem c_Sh_init_0 (Z : ZX) (σ : Mem) : Ct (mkB0 Z) 2 m_Sh_init [rf0 Z 0] 1 σ 64 8626 (fun v t => v = none ∧ t = g_Sh_init_0 σ) := by
  refine Ct.ofM (by decide +kernel) (Nat.le_of_ble_eq_true rfl) (fun Y hR => ?_)
  show V (mkB0 Z) Y m_Sh_init 2 (QP (mkB0 Z) Y 65 64 8626 (fun v t => v = none ∧ t = g_Sh_init_0 σ)) 0 0 1 σ 0 [(0, rf0 Z 0)] []
  refine V.aload_n d_Sh_init_0 rfl 0 rfl ?_
  refine V.oinit lk_Sh_1 (by decide) (Nat.le_of_ble_eq_true rfl) d_Sh_init_1 ?_
  refine V.aload_n d_Sh_init_4 rfl 0 rfl ?_
  refine V.newO ok_Ta cw_Sh_7 iw_Ta.1 iw_Ta.2 rfl (fun j hj => by rcases (show j = 0 ∨ j = 1 by omega) with rfl | rfl <;> rfl) (fun R h => by rw [← h, hR]; exact ⟨Nat.le_of_ble_eq_true rfl, Nat.le_of_ble_eq_true rfl⟩) d_Sh_init_5 ?_
  refine V.dup d_Sh_init_8 rfl ?_
  refine V.callIN (as := []) (st := [rf0 Z 1, rf0 Z 0]) (c_Ta_init_1 Z _) ki_Ta_init.1 ki_Ta_init.2 rfl rfl ln_Sh_9 (by decide) rfl rfl (Nat.le_of_ble_eq_true rfl) (fun R h => by rw [← h, hR]; exact ⟨Nat.le_of_ble_eq_true rfl, Nat.le_of_ble_eq_true rfl⟩) d_Sh_init_9 (fun v t hh => ?_)
  obtain ⟨rfl, rfl⟩ := hh
  refine V.putF (r := 1) ok_Sh fl_Sh_10 (by decide) (by decide) rfl rfl rfl rfl rfl (fun _ => rfl) (fun _ => rfl) d_Sh_init_12 ?_
  refine V.aload_n d_Sh_init_15 rfl 0 rfl ?_
  refine V.newO ok_La cw_Sh_16 iw_La.1 iw_La.2 rfl (fun j hj => by rcases (show j = 0 ∨ j = 1 ∨ j = 2 ∨ j = 3 ∨ j = 4 ∨ j = 5 ∨ j = 6 ∨ j = 7 by omega) with rfl | rfl | rfl | rfl | rfl | rfl | rfl | rfl <;> rfl) (fun R h => by rw [← h, hR]; exact ⟨Nat.le_of_ble_eq_true rfl, Nat.le_of_ble_eq_true rfl⟩) d_Sh_init_16 ?_
  refine V.dup d_Sh_init_19 rfl ?_
  refine V.callIN (as := []) (st := [rf0 Z 3, rf0 Z 0]) (c_La_init_3 Z _) ki_La_init.1 ki_La_init.2 rfl rfl ln_Sh_18 (by decide) rfl rfl (Nat.le_of_ble_eq_true rfl) (fun R h => by rw [← h, hR]; exact ⟨Nat.le_of_ble_eq_true rfl, Nat.le_of_ble_eq_true rfl⟩) d_Sh_init_20 (fun v t hh => ?_)
  obtain ⟨rfl, rfl⟩ := hh
  refine V.putF (r := 3) ok_Sh fl_Sh_19 (by decide) (by decide) rfl rfl rfl rfl rfl (fun _ => rfl) (fun _ => rfl) d_Sh_init_23 ?_
  refine V.aload_n d_Sh_init_26 rfl 0 rfl ?_
  refine V.newO ok_La cw_Sh_16 iw_La.1 iw_La.2 rfl (fun j hj => by rcases (show j = 0 ∨ j = 1 ∨ j = 2 ∨ j = 3 ∨ j = 4 ∨ j = 5 ∨ j = 6 ∨ j = 7 by omega) with rfl | rfl | rfl | rfl | rfl | rfl | rfl | rfl <;> rfl) (fun R h => by rw [← h, hR]; exact ⟨Nat.le_of_ble_eq_true rfl, Nat.le_of_ble_eq_true rfl⟩) d_Sh_init_27 ?_
  refine V.dup d_Sh_init_30 rfl ?_
  refine V.callIN (as := []) (st := [rf0 Z 10, rf0 Z 0]) (c_La_init_10 Z _) ki_La_init.1 ki_La_init.2 rfl rfl ln_Sh_18 (by decide) rfl rfl (Nat.le_of_ble_eq_true rfl) (fun R h => by rw [← h, hR]; exact ⟨Nat.le_of_ble_eq_true rfl, Nat.le_of_ble_eq_true rfl⟩) d_Sh_init_31 (fun v t hh => ?_)
  obtain ⟨rfl, rfl⟩ := hh
  refine V.putF (r := 10) ok_Sh fl_Sh_23 (by decide) (by decide) rfl rfl rfl rfl rfl (fun _ => rfl) (fun _ => rfl) d_Sh_init_34 ?_
  refine V.aload_n d_Sh_init_37 rfl 0 rfl ?_
  refine V.newO ok_Rd cw_Sh_26 iw_Rd.1 iw_Rd.2 rfl (fun j hj => by rcases (show j = 0 ∨ j = 1 ∨ j = 2 ∨ j = 3 ∨ j = 4 ∨ j = 5 by omega) with rfl | rfl | rfl | rfl | rfl | rfl <;> rfl) (fun R h => by rw [← h, hR]; exact ⟨Nat.le_of_ble_eq_true rfl, Nat.le_of_ble_eq_true rfl⟩) d_Sh_init_38 ?_
  refine V.dup d_Sh_init_41 rfl ?_
  refine V.aload_n d_Sh_init_42 rfl 0 rfl ?_
  refine V.getM (r := 1) ok_Sh fl_Sh_10 (by decide) (by decide) rfl rfl rfl d_Sh_init_43 ?_
  refine V.aload_n d_Sh_init_46 rfl 0 rfl ?_
  refine V.getM (r := 10) ok_Sh fl_Sh_23 (by decide) (by decide) rfl rfl rfl d_Sh_init_47 ?_
  refine V.callI (as := [rf0 Z 1, rf0 Z 10]) (st := [rf0 Z 17, rf0 Z 0]) (c_Rd_init_17 Z _) ki_Rd_init.1 ki_Rd_init.2 rfl rfl lk_Sh_28 (by decide) rfl rfl (Nat.le_of_ble_eq_true rfl) (fun R h => by rw [← h, hR]; exact ⟨Nat.le_of_ble_eq_true rfl, Nat.le_of_ble_eq_true rfl⟩) d_Sh_init_50 (fun v t hh => ?_)
  obtain ⟨rfl, rfl⟩ := hh
  refine V.putF (r := 17) ok_Sh fl_Sh_31 (by decide) (by decide) rfl rfl rfl rfl rfl (fun _ => rfl) (fun _ => rfl) d_Sh_init_53 ?_
  refine V.aload_n d_Sh_init_56 rfl 0 rfl ?_
  refine V.newO ok_To cw_Sh_35 iw_To.1 iw_To.2 rfl (fun j hj => by rcases (show j = 0 ∨ j = 1 ∨ j = 2 ∨ j = 3 ∨ j = 4 ∨ j = 5 ∨ j = 6 ∨ j = 7 ∨ j = 8 ∨ j = 9 by omega) with rfl | rfl | rfl | rfl | rfl | rfl | rfl | rfl | rfl | rfl <;> rfl) (fun R h => by rw [← h, hR]; exact ⟨Nat.le_of_ble_eq_true rfl, Nat.le_of_ble_eq_true rfl⟩) d_Sh_init_57 ?_
  refine V.dup d_Sh_init_60 rfl ?_
  refine V.callIN (as := []) (st := [rf0 Z 19, rf0 Z 0]) (c_To_init_19 Z _) ki_To_init.1 ki_To_init.2 rfl rfl ln_Sh_37 (by decide) rfl rfl (Nat.le_of_ble_eq_true rfl) (fun R h => by rw [← h, hR]; exact ⟨Nat.le_of_ble_eq_true rfl, Nat.le_of_ble_eq_true rfl⟩) d_Sh_init_61 (fun v t hh => ?_)
  obtain ⟨rfl, rfl⟩ := hh
  refine V.putF (r := 19) ok_Sh fl_Sh_38 (by decide) (by decide) rfl rfl rfl rfl rfl (fun _ => rfl) (fun _ => rfl) d_Sh_init_64 ?_
  refine V.aload_n d_Sh_init_67 rfl 0 rfl ?_
  refine V.newO ok_To cw_Sh_35 iw_To.1 iw_To.2 rfl (fun j hj => by rcases (show j = 0 ∨ j = 1 ∨ j = 2 ∨ j = 3 ∨ j = 4 ∨ j = 5 ∨ j = 6 ∨ j = 7 ∨ j = 8 ∨ j = 9 by omega) with rfl | rfl | rfl | rfl | rfl | rfl | rfl | rfl | rfl | rfl <;> rfl) (fun R h => by rw [← h, hR]; exact ⟨Nat.le_of_ble_eq_true rfl, Nat.le_of_ble_eq_true rfl⟩) d_Sh_init_68 ?_
  refine V.dup d_Sh_init_71 rfl ?_
  refine V.callIN (as := []) (st := [rf0 Z 26, rf0 Z 0]) (c_To_init_26 Z _) ki_To_init.1 ki_To_init.2 rfl rfl ln_Sh_37 (by decide) rfl rfl (Nat.le_of_ble_eq_true rfl) (fun R h => by rw [← h, hR]; exact ⟨Nat.le_of_ble_eq_true rfl, Nat.le_of_ble_eq_true rfl⟩) d_Sh_init_72 (fun v t hh => ?_)
  obtain ⟨rfl, rfl⟩ := hh
  refine V.putF (r := 26) ok_Sh fl_Sh_42 (by decide) (by decide) rfl rfl rfl rfl rfl (fun _ => rfl) (fun _ => rfl) d_Sh_init_75 ?_
  refine V.aload_n d_Sh_init_78 rfl 0 rfl ?_
  refine V.iconst (v := 0) d_Sh_init_79 (by decide) ?_
  refine V.putI ok_Sh fl_Sh_45 (by decide) (by decide) rfl rfl rfl rfl rfl d_Sh_init_80 ?_
  refine V.aload_n d_Sh_init_83 rfl 0 rfl ?_
  refine V.newO ok_Da cw_Sh_49 iw_Da.1 iw_Da.2 rfl (fun j hj => by rcases (show j = 0 ∨ j = 1 ∨ j = 2 ∨ j = 3 ∨ j = 4 ∨ j = 5 ∨ j = 6 ∨ j = 7 ∨ j = 8 ∨ j = 9 ∨ j = 10 by omega) with rfl | rfl | rfl | rfl | rfl | rfl | rfl | rfl | rfl | rfl | rfl <;> rfl) (fun R h => by rw [← h, hR]; exact ⟨Nat.le_of_ble_eq_true rfl, Nat.le_of_ble_eq_true rfl⟩) d_Sh_init_84 ?_
  refine V.dup d_Sh_init_87 rfl ?_
  refine V.aload_n d_Sh_init_88 rfl 0 rfl ?_
  refine V.getM (r := 19) ok_Sh fl_Sh_38 (by decide) (by decide) rfl rfl rfl d_Sh_init_89 ?_
  refine V.aload_n d_Sh_init_92 rfl 0 rfl ?_
  refine V.getM (r := 3) ok_Sh fl_Sh_19 (by decide) (by decide) rfl rfl rfl d_Sh_init_93 ?_
  refine V.callI (as := [rf0 Z 19, rf0 Z 3]) (st := [rf0 Z 33, rf0 Z 0]) (c_Da_init_33 Z _) ki_Da_init.1 ki_Da_init.2 rfl rfl lk_Sh_51 (by decide) rfl rfl (Nat.le_of_ble_eq_true rfl) (fun R h => by rw [← h, hR]; exact ⟨Nat.le_of_ble_eq_true rfl, Nat.le_of_ble_eq_true rfl⟩) d_Sh_init_96 (fun v t hh => ?_)
  obtain ⟨rfl, rfl⟩ := hh
  refine V.putF (r := 33) ok_Sh fl_Sh_54 (by decide) (by decide) rfl rfl rfl rfl rfl (fun _ => rfl) (fun _ => rfl) d_Sh_init_99 ?_
  refine V.aload_n d_Sh_init_102 rfl 0 rfl ?_
  refine V.newO ok_St cw_Sh_58 iw_St.1 iw_St.2 rfl (fun j hj => by rcases (show j = 0 ∨ j = 1 ∨ j = 2 ∨ j = 3 by omega) with rfl | rfl | rfl | rfl <;> rfl) (fun R h => by rw [← h, hR]; exact ⟨Nat.le_of_ble_eq_true rfl, Nat.le_of_ble_eq_true rfl⟩) d_Sh_init_103 ?_
  refine V.dup d_Sh_init_106 rfl ?_
  refine V.callIN (as := []) (st := [rf0 Z 41, rf0 Z 0]) (c_St_init_41 Z _) ki_St_init.1 ki_St_init.2 rfl rfl ln_Sh_60 (by decide) rfl rfl (Nat.le_of_ble_eq_true rfl) (fun R h => by rw [← h, hR]; exact ⟨Nat.le_of_ble_eq_true rfl, Nat.le_of_ble_eq_true rfl⟩) d_Sh_init_107 (fun v t hh => ?_)
  obtain ⟨rfl, rfl⟩ := hh
  refine V.putF (r := 41) ok_Sh fl_Sh_61 (by decide) (by decide) rfl rfl rfl rfl rfl (fun _ => rfl) (fun _ => rfl) d_Sh_init_110 ?_
  refine V.aload_n d_Sh_init_113 rfl 0 rfl ?_
  refine V.newO ok_Wa cw_Sh_65 iw_Wa.1 iw_Wa.2 rfl (fun j hj => by rcases (show j = 0 ∨ j = 1 by omega) with rfl | rfl <;> rfl) (fun R h => by rw [← h, hR]; exact ⟨Nat.le_of_ble_eq_true rfl, Nat.le_of_ble_eq_true rfl⟩) d_Sh_init_114 ?_
  refine V.dup d_Sh_init_117 rfl ?_
  refine V.callIN (as := []) (st := [rf0 Z 44, rf0 Z 0]) (c_Wa_init_44 Z _) ki_Wa_init.1 ki_Wa_init.2 rfl rfl ln_Sh_67 (by decide) rfl rfl (Nat.le_of_ble_eq_true rfl) (fun R h => by rw [← h, hR]; exact ⟨Nat.le_of_ble_eq_true rfl, Nat.le_of_ble_eq_true rfl⟩) d_Sh_init_118 (fun v t hh => ?_)
  obtain ⟨rfl, rfl⟩ := hh
  refine V.putF (r := 44) ok_Sh fl_Sh_68 (by decide) (by decide) rfl rfl rfl rfl rfl (fun _ => rfl) (fun _ => rfl) d_Sh_init_121 ?_
  refine V.aload_n d_Sh_init_124 rfl 0 rfl ?_
  refine V.newO ok_Ma cw_Sh_72 iw_Ma.1 iw_Ma.2 rfl (fun j hj => by rcases (show j = 0 ∨ j = 1 ∨ j = 2 ∨ j = 3 ∨ j = 4 ∨ j = 5 ∨ j = 6 ∨ j = 7 ∨ j = 8 ∨ j = 9 ∨ j = 10 by omega) with rfl | rfl | rfl | rfl | rfl | rfl | rfl | rfl | rfl | rfl | rfl <;> rfl) (fun R h => by rw [← h, hR]; exact ⟨Nat.le_of_ble_eq_true rfl, Nat.le_of_ble_eq_true rfl⟩) d_Sh_init_125 ?_
  refine V.dup d_Sh_init_128 rfl ?_
  refine V.callIN (as := []) (st := [rf0 Z 47, rf0 Z 0]) (c_Ma_init_47 Z _) ki_Ma_init.1 ki_Ma_init.2 rfl rfl ln_Sh_74 (by decide) rfl rfl (Nat.le_of_ble_eq_true rfl) (fun R h => by rw [← h, hR]; exact ⟨Nat.le_of_ble_eq_true rfl, Nat.le_of_ble_eq_true rfl⟩) d_Sh_init_129 (fun v t hh => ?_)
  obtain ⟨rfl, rfl⟩ := hh
  refine V.putF (r := 47) ok_Sh fl_Sh_75 (by decide) (by decide) rfl rfl rfl rfl rfl (fun _ => rfl) (fun _ => rfl) d_Sh_init_132 ?_
  refine V.aload_n d_Sh_init_135 rfl 0 rfl ?_
  refine V.newO ok_Wi cw_Sh_79 iw_Wi.1 iw_Wi.2 rfl (fun j hj => by rcases (show j = 0 ∨ j = 1 ∨ j = 2 ∨ j = 3 ∨ j = 4 ∨ j = 5 ∨ j = 6 by omega) with rfl | rfl | rfl | rfl | rfl | rfl | rfl <;> rfl) (fun R h => by rw [← h, hR]; exact ⟨Nat.le_of_ble_eq_true rfl, Nat.le_of_ble_eq_true rfl⟩) d_Sh_init_136 ?_
  refine V.dup d_Sh_init_139 rfl ?_
  refine V.callIN (as := []) (st := [rf0 Z 56, rf0 Z 0]) (c_Wi_init_56 Z _) ki_Wi_init.1 ki_Wi_init.2 rfl rfl ln_Sh_81 (by decide) rfl rfl (Nat.le_of_ble_eq_true rfl) (fun R h => by rw [← h, hR]; exact ⟨Nat.le_of_ble_eq_true rfl, Nat.le_of_ble_eq_true rfl⟩) d_Sh_init_140 (fun v t hh => ?_)
  obtain ⟨rfl, rfl⟩ := hh
  refine V.putF (r := 56) ok_Sh fl_Sh_82 (by decide) (by decide) rfl rfl rfl rfl rfl (fun _ => rfl) (fun _ => rfl) d_Sh_init_143 ?_
  refine V.aload_n d_Sh_init_146 rfl 0 rfl ?_
  refine V.newO ok_Cl cw_Sh_86 iw_Cl.1 iw_Cl.2 rfl (fun j hj => by obtain rfl : j = 0 := (by omega); rfl) (fun R h => by rw [← h, hR]; exact ⟨Nat.le_of_ble_eq_true rfl, Nat.le_of_ble_eq_true rfl⟩) d_Sh_init_147 ?_
  refine V.dup d_Sh_init_150 rfl ?_
  refine V.callIN (as := []) (st := [rf0 Z 63, rf0 Z 0]) (c_Cl_init_63 Z _) ki_Cl_init.1 ki_Cl_init.2 rfl rfl ln_Sh_88 (by decide) rfl rfl (Nat.le_of_ble_eq_true rfl) (fun R h => by rw [← h, hR]; exact ⟨Nat.le_of_ble_eq_true rfl, Nat.le_of_ble_eq_true rfl⟩) d_Sh_init_151 (fun v t hh => ?_)
  obtain ⟨rfl, rfl⟩ := hh
  refine V.putF (r := 63) ok_Sh fl_Sh_89 (by decide) (by decide) rfl rfl rfl rfl rfl (fun _ => rfl) (fun _ => rfl) d_Sh_init_154 ?_
  exact V.vret rfl d_Sh_init_157 ⟨rfl, rfl⟩

abbrev m_Mo_init : MI := (⟨"ShadeTownModel", "<init>", "()V"⟩, prog_13_method_1_code, 1, (Option.none : Option Jvm.ClassFile.FieldType))
theorem d_Mo_init_0 : decode prog_13_method_1_code 0 = .ok (.aload_n 0, 1) := by decide +kernel
theorem lk_Mo_1 : Cond.methodLink "ShadeTownModel" 1 ⟨"java/lang/Object", "<init>", "()V"⟩ ∈ tblG := atG 1331 (by decide +kernel) rfl
theorem d_Mo_init_1 : decode prog_13_method_1_code 1 = .ok (.invokespecial 1, 3) := by decide +kernel
theorem d_Mo_init_4 : decode prog_13_method_1_code 4 = .ok (.aload_n 0, 1) := by decide +kernel
theorem d_Mo_init_5 : decode prog_13_method_1_code 5 = .ok (.bipush 17, 2) := by decide +kernel
theorem d_Mo_init_7 : decode prog_13_method_1_code 7 = .ok (.newarray .int, 2) := by decide +kernel
theorem d_Mo_init_9 : decode prog_13_method_1_code 9 = .ok (.putfield 7, 3) := by decide +kernel
theorem d_Mo_init_12 : decode prog_13_method_1_code 12 = .ok (.aload_n 0, 1) := by decide +kernel
theorem d_Mo_init_13 : decode prog_13_method_1_code 13 = .ok (.bipush 17, 2) := by decide +kernel
theorem d_Mo_init_15 : decode prog_13_method_1_code 15 = .ok (.newarray .int, 2) := by decide +kernel
theorem d_Mo_init_17 : decode prog_13_method_1_code 17 = .ok (.putfield 13, 3) := by decide +kernel
theorem d_Mo_init_20 : decode prog_13_method_1_code 20 = .ok (.aload_n 0, 1) := by decide +kernel
theorem d_Mo_init_21 : decode prog_13_method_1_code 21 = .ok (.bipush 17, 2) := by decide +kernel
theorem d_Mo_init_23 : decode prog_13_method_1_code 23 = .ok (.newarray .int, 2) := by decide +kernel
theorem d_Mo_init_25 : decode prog_13_method_1_code 25 = .ok (.putfield 16, 3) := by decide +kernel
theorem d_Mo_init_28 : decode prog_13_method_1_code 28 = .ok (.aload_n 0, 1) := by decide +kernel
theorem d_Mo_init_29 : decode prog_13_method_1_code 29 = .ok (.bipush 17, 2) := by decide +kernel
theorem d_Mo_init_31 : decode prog_13_method_1_code 31 = .ok (.newarray .int, 2) := by decide +kernel
theorem d_Mo_init_33 : decode prog_13_method_1_code 33 = .ok (.putfield 19, 3) := by decide +kernel
theorem d_Mo_init_36 : decode prog_13_method_1_code 36 = .ok (.aload_n 0, 1) := by decide +kernel
theorem d_Mo_init_37 : decode prog_13_method_1_code 37 = .ok (.bipush 17, 2) := by decide +kernel
theorem d_Mo_init_39 : decode prog_13_method_1_code 39 = .ok (.newarray .int, 2) := by decide +kernel
theorem d_Mo_init_41 : decode prog_13_method_1_code 41 = .ok (.putfield 22, 3) := by decide +kernel
theorem d_Mo_init_44 : decode prog_13_method_1_code 44 = .ok (.aload_n 0, 1) := by decide +kernel
theorem d_Mo_init_45 : decode prog_13_method_1_code 45 = .ok (.bipush 6, 2) := by decide +kernel
theorem d_Mo_init_47 : decode prog_13_method_1_code 47 = .ok (.newarray .int, 2) := by decide +kernel
theorem d_Mo_init_49 : decode prog_13_method_1_code 49 = .ok (.putfield 25, 3) := by decide +kernel
theorem d_Mo_init_52 : decode prog_13_method_1_code 52 = .ok (.aload_n 0, 1) := by decide +kernel
theorem d_Mo_init_53 : decode prog_13_method_1_code 53 = .ok (.sipush 260, 3) := by decide +kernel
theorem aw_byte : Cond.arrayClass .byte ∈ tblG := atG 687 (by decide +kernel) rfl
theorem d_Mo_init_56 : decode prog_13_method_1_code 56 = .ok (.newarray .byte, 2) := by decide +kernel
theorem d_Mo_init_58 : decode prog_13_method_1_code 58 = .ok (.putfield 28, 3) := by decide +kernel
theorem d_Mo_init_61 : decode prog_13_method_1_code 61 = .ok (.aload_n 0, 1) := by decide +kernel
theorem d_Mo_init_62 : decode prog_13_method_1_code 62 = .ok (.sipush 260, 3) := by decide +kernel
theorem d_Mo_init_65 : decode prog_13_method_1_code 65 = .ok (.newarray .int, 2) := by decide +kernel
theorem d_Mo_init_67 : decode prog_13_method_1_code 67 = .ok (.putfield 32, 3) := by decide +kernel
theorem d_Mo_init_70 : decode prog_13_method_1_code 70 = .ok (.aload_n 0, 1) := by decide +kernel
theorem d_Mo_init_71 : decode prog_13_method_1_code 71 = .ok (.sipush 260, 3) := by decide +kernel
theorem d_Mo_init_74 : decode prog_13_method_1_code 74 = .ok (.newarray .int, 2) := by decide +kernel
theorem d_Mo_init_76 : decode prog_13_method_1_code 76 = .ok (.putfield 35, 3) := by decide +kernel
theorem d_Mo_init_79 : decode prog_13_method_1_code 79 = .ok (.aload_n 0, 1) := by decide +kernel
theorem d_Mo_init_80 : decode prog_13_method_1_code 80 = .ok (.bipush 16, 2) := by decide +kernel
theorem d_Mo_init_82 : decode prog_13_method_1_code 82 = .ok (.newarray .int, 2) := by decide +kernel
theorem d_Mo_init_84 : decode prog_13_method_1_code 84 = .ok (.putfield 38, 3) := by decide +kernel
theorem d_Mo_init_87 : decode prog_13_method_1_code 87 = .ok (.aload_n 0, 1) := by decide +kernel
theorem d_Mo_init_88 : decode prog_13_method_1_code 88 = .ok (.bipush 16, 2) := by decide +kernel
theorem d_Mo_init_90 : decode prog_13_method_1_code 90 = .ok (.newarray .int, 2) := by decide +kernel
theorem d_Mo_init_92 : decode prog_13_method_1_code 92 = .ok (.putfield 41, 3) := by decide +kernel
theorem d_Mo_init_95 : decode prog_13_method_1_code 95 = .ok (.aload_n 0, 1) := by decide +kernel
theorem d_Mo_init_96 : decode prog_13_method_1_code 96 = .ok (.bipush 16, 2) := by decide +kernel
theorem d_Mo_init_98 : decode prog_13_method_1_code 98 = .ok (.newarray .int, 2) := by decide +kernel
theorem d_Mo_init_100 : decode prog_13_method_1_code 100 = .ok (.putfield 44, 3) := by decide +kernel
theorem d_Mo_init_103 : decode prog_13_method_1_code 103 = .ok (.aload_n 0, 1) := by decide +kernel
theorem d_Mo_init_104 : decode prog_13_method_1_code 104 = .ok (.bipush 16, 2) := by decide +kernel
theorem d_Mo_init_106 : decode prog_13_method_1_code 106 = .ok (.newarray .int, 2) := by decide +kernel
theorem d_Mo_init_108 : decode prog_13_method_1_code 108 = .ok (.putfield 47, 3) := by decide +kernel
theorem d_Mo_init_111 : decode prog_13_method_1_code 111 = .ok (.aload_n 0, 1) := by decide +kernel
theorem d_Mo_init_112 : decode prog_13_method_1_code 112 = .ok (.sipush 260, 3) := by decide +kernel
theorem d_Mo_init_115 : decode prog_13_method_1_code 115 = .ok (.newarray .int, 2) := by decide +kernel
theorem d_Mo_init_117 : decode prog_13_method_1_code 117 = .ok (.putfield 50, 3) := by decide +kernel
theorem d_Mo_init_120 : decode prog_13_method_1_code 120 = .ok (.aload_n 0, 1) := by decide +kernel
theorem d_Mo_init_121 : decode prog_13_method_1_code 121 = .ok (.bipush 16, 2) := by decide +kernel
theorem d_Mo_init_123 : decode prog_13_method_1_code 123 = .ok (.newarray .int, 2) := by decide +kernel
theorem d_Mo_init_125 : decode prog_13_method_1_code 125 = .ok (.putfield 53, 3) := by decide +kernel
theorem d_Mo_init_128 : decode prog_13_method_1_code 128 = .ok (.aload_n 0, 1) := by decide +kernel
theorem d_Mo_init_129 : decode prog_13_method_1_code 129 = .ok (.bipush 16, 2) := by decide +kernel
theorem d_Mo_init_131 : decode prog_13_method_1_code 131 = .ok (.newarray .int, 2) := by decide +kernel
theorem d_Mo_init_133 : decode prog_13_method_1_code 133 = .ok (.putfield 56, 3) := by decide +kernel
theorem d_Mo_init_136 : decode prog_13_method_1_code 136 = .ok (.aload_n 0, 1) := by decide +kernel
theorem d_Mo_init_137 : decode prog_13_method_1_code 137 = .ok (.bipush 16, 2) := by decide +kernel
theorem d_Mo_init_139 : decode prog_13_method_1_code 139 = .ok (.newarray .int, 2) := by decide +kernel
theorem d_Mo_init_141 : decode prog_13_method_1_code 141 = .ok (.putfield 59, 3) := by decide +kernel
theorem d_Mo_init_144 : decode prog_13_method_1_code 144 = .ok (.aload_n 0, 1) := by decide +kernel
theorem d_Mo_init_145 : decode prog_13_method_1_code 145 = .ok (.bipush 16, 2) := by decide +kernel
theorem d_Mo_init_147 : decode prog_13_method_1_code 147 = .ok (.newarray .int, 2) := by decide +kernel
theorem d_Mo_init_149 : decode prog_13_method_1_code 149 = .ok (.putfield 62, 3) := by decide +kernel
theorem d_Mo_init_152 : decode prog_13_method_1_code 152 = .ok (.aload_n 0, 1) := by decide +kernel
theorem d_Mo_init_153 : decode prog_13_method_1_code 153 = .ok (.sipush 260, 3) := by decide +kernel
theorem d_Mo_init_156 : decode prog_13_method_1_code 156 = .ok (.newarray .int, 2) := by decide +kernel
theorem d_Mo_init_158 : decode prog_13_method_1_code 158 = .ok (.putfield 65, 3) := by decide +kernel
theorem d_Mo_init_161 : decode prog_13_method_1_code 161 = .ok (.aload_n 0, 1) := by decide +kernel
theorem d_Mo_init_162 : decode prog_13_method_1_code 162 = .ok (.bipush 9, 2) := by decide +kernel
theorem d_Mo_init_164 : decode prog_13_method_1_code 164 = .ok (.newarray .int, 2) := by decide +kernel
theorem d_Mo_init_166 : decode prog_13_method_1_code 166 = .ok (.putfield 68, 3) := by decide +kernel
theorem d_Mo_init_169 : decode prog_13_method_1_code 169 = .ok (.aload_n 0, 1) := by decide +kernel
theorem d_Mo_init_170 : decode prog_13_method_1_code 170 = .ok (.sipush 3456, 3) := by decide +kernel
theorem d_Mo_init_173 : decode prog_13_method_1_code 173 = .ok (.newarray .int, 2) := by decide +kernel
theorem d_Mo_init_175 : decode prog_13_method_1_code 175 = .ok (.putfield 71, 3) := by decide +kernel
theorem d_Mo_init_178 : decode prog_13_method_1_code 178 = .ok (.aload_n 0, 1) := by decide +kernel
theorem d_Mo_init_179 : decode prog_13_method_1_code 179 = .ok (.bipush 24, 2) := by decide +kernel
theorem d_Mo_init_181 : decode prog_13_method_1_code 181 = .ok (.newarray .boolean, 2) := by decide +kernel
theorem d_Mo_init_183 : decode prog_13_method_1_code 183 = .ok (.putfield 74, 3) := by decide +kernel
theorem d_Mo_init_186 : decode prog_13_method_1_code 186 = .ok (.aload_n 0, 1) := by decide +kernel
theorem d_Mo_init_187 : decode prog_13_method_1_code 187 = .ok (.sipush 144, 3) := by decide +kernel
theorem d_Mo_init_190 : decode prog_13_method_1_code 190 = .ok (.newarray .boolean, 2) := by decide +kernel
theorem d_Mo_init_192 : decode prog_13_method_1_code 192 = .ok (.putfield 78, 3) := by decide +kernel
theorem d_Mo_init_195 : decode prog_13_method_1_code 195 = .ok (.aload_n 0, 1) := by decide +kernel
theorem d_Mo_init_196 : decode prog_13_method_1_code 196 = .ok (.sipush 1728, 3) := by decide +kernel
theorem d_Mo_init_199 : decode prog_13_method_1_code 199 = .ok (.newarray .int, 2) := by decide +kernel
theorem d_Mo_init_201 : decode prog_13_method_1_code 201 = .ok (.putfield 81, 3) := by decide +kernel
theorem d_Mo_init_204 : decode prog_13_method_1_code 204 = .ok (.aload_n 0, 1) := by decide +kernel
theorem d_Mo_init_205 : decode prog_13_method_1_code 205 = .ok (.sipush 144, 3) := by decide +kernel
theorem d_Mo_init_208 : decode prog_13_method_1_code 208 = .ok (.newarray .boolean, 2) := by decide +kernel
theorem d_Mo_init_210 : decode prog_13_method_1_code 210 = .ok (.putfield 84, 3) := by decide +kernel
theorem d_Mo_init_213 : decode prog_13_method_1_code 213 = .ok (.aload_n 0, 1) := by decide +kernel
theorem d_Mo_init_214 : decode prog_13_method_1_code 214 = .ok (.sipush 144, 3) := by decide +kernel
theorem d_Mo_init_217 : decode prog_13_method_1_code 217 = .ok (.newarray .boolean, 2) := by decide +kernel
theorem d_Mo_init_219 : decode prog_13_method_1_code 219 = .ok (.putfield 87, 3) := by decide +kernel
theorem d_Mo_init_222 : decode prog_13_method_1_code 222 = .ok (.aload_n 0, 1) := by decide +kernel
theorem d_Mo_init_223 : decode prog_13_method_1_code 223 = .ok (.sipush 144, 3) := by decide +kernel
theorem d_Mo_init_226 : decode prog_13_method_1_code 226 = .ok (.newarray .int, 2) := by decide +kernel
theorem d_Mo_init_228 : decode prog_13_method_1_code 228 = .ok (.putfield 90, 3) := by decide +kernel
theorem d_Mo_init_231 : decode prog_13_method_1_code 231 = .ok (.aload_n 0, 1) := by decide +kernel
theorem d_Mo_init_232 : decode prog_13_method_1_code 232 = .ok (.sipush 144, 3) := by decide +kernel
theorem d_Mo_init_235 : decode prog_13_method_1_code 235 = .ok (.newarray .int, 2) := by decide +kernel
theorem d_Mo_init_237 : decode prog_13_method_1_code 237 = .ok (.putfield 93, 3) := by decide +kernel
theorem d_Mo_init_240 : decode prog_13_method_1_code 240 = .ok (.aload_n 0, 1) := by decide +kernel
theorem d_Mo_init_241 : decode prog_13_method_1_code 241 = .ok (.bipush 8, 2) := by decide +kernel
theorem d_Mo_init_243 : decode prog_13_method_1_code 243 = .ok (.newarray .int, 2) := by decide +kernel
theorem d_Mo_init_245 : decode prog_13_method_1_code 245 = .ok (.putfield 96, 3) := by decide +kernel
theorem d_Mo_init_248 : decode prog_13_method_1_code 248 = .ok (.aload_n 0, 1) := by decide +kernel
theorem d_Mo_init_249 : decode prog_13_method_1_code 249 = .ok (.sipush 256, 3) := by decide +kernel
theorem d_Mo_init_252 : decode prog_13_method_1_code 252 = .ok (.newarray .int, 2) := by decide +kernel
theorem d_Mo_init_254 : decode prog_13_method_1_code 254 = .ok (.putfield 99, 3) := by decide +kernel
theorem d_Mo_init_257 : decode prog_13_method_1_code 257 = .ok (.aload_n 0, 1) := by decide +kernel
theorem d_Mo_init_258 : decode prog_13_method_1_code 258 = .ok (.sipush 256, 3) := by decide +kernel
theorem d_Mo_init_261 : decode prog_13_method_1_code 261 = .ok (.newarray .long, 2) := by decide +kernel
theorem d_Mo_init_263 : decode prog_13_method_1_code 263 = .ok (.putfield 102, 3) := by decide +kernel
theorem d_Mo_init_266 : decode prog_13_method_1_code 266 = .ok (.aload_n 0, 1) := by decide +kernel
theorem d_Mo_init_267 : decode prog_13_method_1_code 267 = .ok (.bipush 8, 2) := by decide +kernel
theorem d_Mo_init_269 : decode prog_13_method_1_code 269 = .ok (.newarray .long, 2) := by decide +kernel
theorem d_Mo_init_271 : decode prog_13_method_1_code 271 = .ok (.putfield 106, 3) := by decide +kernel
theorem d_Mo_init_274 : decode prog_13_method_1_code 274 = .ok (.aload_n 0, 1) := by decide +kernel
theorem d_Mo_init_275 : decode prog_13_method_1_code 275 = .ok (.bipush 8, 2) := by decide +kernel
theorem d_Mo_init_277 : decode prog_13_method_1_code 277 = .ok (.newarray .int, 2) := by decide +kernel
theorem d_Mo_init_279 : decode prog_13_method_1_code 279 = .ok (.putfield 109, 3) := by decide +kernel
theorem d_Mo_init_282 : decode prog_13_method_1_code 282 = .ok (.aload_n 0, 1) := by decide +kernel
theorem d_Mo_init_283 : decode prog_13_method_1_code 283 = .ok (.bipush 16, 2) := by decide +kernel
theorem d_Mo_init_285 : decode prog_13_method_1_code 285 = .ok (.newarray .int, 2) := by decide +kernel
theorem d_Mo_init_287 : decode prog_13_method_1_code 287 = .ok (.putfield 112, 3) := by decide +kernel
theorem d_Mo_init_290 : decode prog_13_method_1_code 290 = .ok (.aload_n 0, 1) := by decide +kernel
theorem d_Mo_init_291 : decode prog_13_method_1_code 291 = .ok (.bipush 16, 2) := by decide +kernel
theorem d_Mo_init_293 : decode prog_13_method_1_code 293 = .ok (.newarray .int, 2) := by decide +kernel
theorem d_Mo_init_295 : decode prog_13_method_1_code 295 = .ok (.putfield 115, 3) := by decide +kernel
theorem d_Mo_init_298 : decode prog_13_method_1_code 298 = .ok (.aload_n 0, 1) := by decide +kernel
theorem d_Mo_init_299 : decode prog_13_method_1_code 299 = .ok (.bipush 16, 2) := by decide +kernel
theorem d_Mo_init_301 : decode prog_13_method_1_code 301 = .ok (.newarray .int, 2) := by decide +kernel
theorem d_Mo_init_303 : decode prog_13_method_1_code 303 = .ok (.putfield 118, 3) := by decide +kernel
theorem d_Mo_init_306 : decode prog_13_method_1_code 306 = .ok (.aload_n 0, 1) := by decide +kernel
theorem d_Mo_init_307 : decode prog_13_method_1_code 307 = .ok (.bipush 16, 2) := by decide +kernel
theorem d_Mo_init_309 : decode prog_13_method_1_code 309 = .ok (.newarray .int, 2) := by decide +kernel
theorem d_Mo_init_311 : decode prog_13_method_1_code 311 = .ok (.putfield 121, 3) := by decide +kernel
theorem d_Mo_init_314 : decode prog_13_method_1_code 314 = .ok (.aload_n 0, 1) := by decide +kernel
theorem d_Mo_init_315 : decode prog_13_method_1_code 315 = .ok (.bipush 16, 2) := by decide +kernel
theorem d_Mo_init_317 : decode prog_13_method_1_code 317 = .ok (.newarray .boolean, 2) := by decide +kernel
theorem d_Mo_init_319 : decode prog_13_method_1_code 319 = .ok (.putfield 124, 3) := by decide +kernel
theorem d_Mo_init_322 : decode prog_13_method_1_code 322 = .ok (.aload_n 0, 1) := by decide +kernel
theorem d_Mo_init_323 : decode prog_13_method_1_code 323 = .ok (.iconst 3, 1) := by decide +kernel
theorem d_Mo_init_324 : decode prog_13_method_1_code 324 = .ok (.newarray .int, 2) := by decide +kernel
theorem d_Mo_init_326 : decode prog_13_method_1_code 326 = .ok (.putfield 127, 3) := by decide +kernel
theorem d_Mo_init_329 : decode prog_13_method_1_code 329 = .ok (.aload_n 0, 1) := by decide +kernel
theorem d_Mo_init_330 : decode prog_13_method_1_code 330 = .ok (.sipush 3456, 3) := by decide +kernel
theorem d_Mo_init_333 : decode prog_13_method_1_code 333 = .ok (.newarray .boolean, 2) := by decide +kernel
theorem d_Mo_init_335 : decode prog_13_method_1_code 335 = .ok (.putfield 130, 3) := by decide +kernel
theorem d_Mo_init_338 : decode prog_13_method_1_code 338 = .ok (.aload_n 0, 1) := by decide +kernel
theorem d_Mo_init_339 : decode prog_13_method_1_code 339 = .ok (.bipush 16, 2) := by decide +kernel
theorem d_Mo_init_341 : decode prog_13_method_1_code 341 = .ok (.newarray .int, 2) := by decide +kernel
theorem d_Mo_init_343 : decode prog_13_method_1_code 343 = .ok (.putfield 133, 3) := by decide +kernel
theorem d_Mo_init_346 : decode prog_13_method_1_code 346 = .ok (.aload_n 0, 1) := by decide +kernel
theorem d_Mo_init_347 : decode prog_13_method_1_code 347 = .ok (.bipush 16, 2) := by decide +kernel
theorem d_Mo_init_349 : decode prog_13_method_1_code 349 = .ok (.newarray .int, 2) := by decide +kernel
theorem d_Mo_init_351 : decode prog_13_method_1_code 351 = .ok (.putfield 136, 3) := by decide +kernel
theorem d_Mo_init_354 : decode prog_13_method_1_code 354 = .ok (.aload_n 0, 1) := by decide +kernel
theorem d_Mo_init_355 : decode prog_13_method_1_code 355 = .ok (.bipush 8, 2) := by decide +kernel
theorem d_Mo_init_357 : decode prog_13_method_1_code 357 = .ok (.newarray .int, 2) := by decide +kernel
theorem d_Mo_init_359 : decode prog_13_method_1_code 359 = .ok (.putfield 139, 3) := by decide +kernel
theorem d_Mo_init_362 : decode prog_13_method_1_code 362 = .ok (.aload_n 0, 1) := by decide +kernel
theorem d_Mo_init_363 : decode prog_13_method_1_code 363 = .ok (.bipush 17, 2) := by decide +kernel
theorem d_Mo_init_365 : decode prog_13_method_1_code 365 = .ok (.newarray .int, 2) := by decide +kernel
theorem d_Mo_init_367 : decode prog_13_method_1_code 367 = .ok (.putfield 142, 3) := by decide +kernel
theorem d_Mo_init_370 : decode prog_13_method_1_code 370 = .ok (.aload_n 0, 1) := by decide +kernel
theorem d_Mo_init_371 : decode prog_13_method_1_code 371 = .ok (.bipush 17, 2) := by decide +kernel
theorem d_Mo_init_373 : decode prog_13_method_1_code 373 = .ok (.newarray .int, 2) := by decide +kernel
theorem d_Mo_init_375 : decode prog_13_method_1_code 375 = .ok (.putfield 145, 3) := by decide +kernel
theorem d_Mo_init_378 : decode prog_13_method_1_code 378 = .ok (.aload_n 0, 1) := by decide +kernel
theorem d_Mo_init_379 : decode prog_13_method_1_code 379 = .ok (.bipush 17, 2) := by decide +kernel
theorem d_Mo_init_381 : decode prog_13_method_1_code 381 = .ok (.newarray .int, 2) := by decide +kernel
theorem d_Mo_init_383 : decode prog_13_method_1_code 383 = .ok (.putfield 148, 3) := by decide +kernel
theorem d_Mo_init_386 : decode prog_13_method_1_code 386 = .ok (.aload_n 0, 1) := by decide +kernel
theorem d_Mo_init_387 : decode prog_13_method_1_code 387 = .ok (.bipush 17, 2) := by decide +kernel
theorem d_Mo_init_389 : decode prog_13_method_1_code 389 = .ok (.newarray .int, 2) := by decide +kernel
theorem d_Mo_init_391 : decode prog_13_method_1_code 391 = .ok (.putfield 151, 3) := by decide +kernel
theorem d_Mo_init_394 : decode prog_13_method_1_code 394 = .ok (.aload_n 0, 1) := by decide +kernel
theorem d_Mo_init_395 : decode prog_13_method_1_code 395 = .ok (.bipush 17, 2) := by decide +kernel
theorem d_Mo_init_397 : decode prog_13_method_1_code 397 = .ok (.newarray .int, 2) := by decide +kernel
theorem d_Mo_init_399 : decode prog_13_method_1_code 399 = .ok (.putfield 154, 3) := by decide +kernel
theorem d_Mo_init_402 : decode prog_13_method_1_code 402 = .ok (.aload_n 0, 1) := by decide +kernel
theorem d_Mo_init_403 : decode prog_13_method_1_code 403 = .ok (.bipush 17, 2) := by decide +kernel
theorem d_Mo_init_405 : decode prog_13_method_1_code 405 = .ok (.newarray .int, 2) := by decide +kernel
theorem d_Mo_init_407 : decode prog_13_method_1_code 407 = .ok (.putfield 157, 3) := by decide +kernel
theorem d_Mo_init_410 : decode prog_13_method_1_code 410 = .ok (.aload_n 0, 1) := by decide +kernel
theorem d_Mo_init_411 : decode prog_13_method_1_code 411 = .ok (.bipush 6, 2) := by decide +kernel
theorem d_Mo_init_413 : decode prog_13_method_1_code 413 = .ok (.newarray .int, 2) := by decide +kernel
theorem d_Mo_init_415 : decode prog_13_method_1_code 415 = .ok (.putfield 160, 3) := by decide +kernel
theorem d_Mo_init_418 : decode prog_13_method_1_code 418 = .ok (.aload_n 0, 1) := by decide +kernel
theorem d_Mo_init_419 : decode prog_13_method_1_code 419 = .ok (.iconst 1, 1) := by decide +kernel
theorem d_Mo_init_420 : decode prog_13_method_1_code 420 = .ok (.putfield 163, 3) := by decide +kernel
theorem d_Mo_init_423 : decode prog_13_method_1_code 423 = .ok (.return_, 1) := by decide +kernel
def g_Mo_init_65 (σ : Mem) : Mem := sI (sR (zr (sR (zr (sR (zr (sR (zr (sR (zr (sR (zr (sR (zr (sR (zr (sR (zr (sR (zr (sR (zr (sR (zr (sR (zr (sR (zr (sR (zr (sR (zr (sR (zr (sR (zr (sR (zr (sR (zr (sR (zr (sR (zr (sR (zr (sR (zr (sR (zr (sR (zr (sR (zr (sR (zr (sR (zr (sR (zr (sR (zr (sR (zr (sR (zr (sR (zr (sR (zr (sR (zr (sR (zr (sR (zr (sR (zr (sR (zr (sR (zr (sR (zr (sR (zr (sR (zr (sR (zr (sR (zr (sR (zr (sR (zr (sR (zr (sR (zr (σ) 66) 65 4 67) 67) 65 5 68) 68) 65 6 69) 69) 65 7 70) 70) 65 8 71) 71) 65 9 72) 72) 65 10 73) 73) 65 21 74) 74) 65 22 75) 75) 65 23 76) 76) 65 24 77) 77) 65 25 78) 78) 65 26 79) 79) 65 27 80) 80) 65 28 81) 81) 65 29 82) 82) 65 30 83) 83) 65 31 84) 84) 65 32 85) 85) 65 33 86) 86) 65 34 87) 87) 65 35 88) 88) 65 36 89) 89) 65 40 90) 90) 65 41 91) 91) 65 42 92) 92) 65 43 93) 93) 65 44 94) 94) 65 48 95) 95) 65 49 96) 96) 65 50 97) 97) 65 51 98) 98) 65 52 99) 99) 65 56 100) 100) 65 57 101) 101) 65 58 102) 102) 65 59 103) 103) 65 60 104) 104) 65 61 105) 105) 65 63 106) 106) 65 64 107) 107) 65 65 108) 108) 65 66 109) 109) 65 67 110) 110) 65 73 111) 111) 65 74 112) 112) 65 75 113) 113) 65 76 114) 114) 65 77 115) 115) 65 78 116) 65 3 1
set_option maxHeartbeats 4000000 in
set_option maxRecDepth 100000 in
theorem c_Mo_init_65 (Z : ZX) (σ : Mem) : Ct (mkB0 Z) 1 m_Mo_init [rf0 Z 65] 66 σ 50 11679 (fun v t => v = none ∧ t = g_Mo_init_65 σ) := by
  refine Ct.ofM (by decide +kernel) (Nat.le_of_ble_eq_true rfl) (fun Y hR => ?_)
  show V (mkB0 Z) Y m_Mo_init 1 (QP (mkB0 Z) Y 116 50 11679 (fun v t => v = none ∧ t = g_Mo_init_65 σ)) 0 0 66 σ 0 [(0, rf0 Z 65)] []
  refine V.aload_n d_Mo_init_0 rfl 0 rfl ?_
  refine V.oinit lk_Mo_1 (by decide) (Nat.le_of_ble_eq_true rfl) d_Mo_init_1 ?_
  refine V.aload_n d_Mo_init_4 rfl 0 rfl ?_
  refine V.bipush (v := 17) d_Mo_init_5 (by decide) ?_
  refine V.newA (atype := .int) (ty := .int) (t := 0) (N := 17) rfl aw_int rfl (fun _ h => h) rfl (fun _ => rfl) (by decide) (by decide) (by decide) (fun R h => by rw [← h, hR]; exact ⟨Nat.le_of_ble_eq_true rfl, Nat.le_of_ble_eq_true rfl⟩) d_Mo_init_7 ?_
  refine V.putF (r := 66) ok_Mo fl_Mo_7 (by decide) (by decide) rfl rfl rfl rfl rfl (fun _ => rfl) (fun _ => rfl) d_Mo_init_9 ?_
  refine V.aload_n d_Mo_init_12 rfl 0 rfl ?_
  refine V.bipush (v := 17) d_Mo_init_13 (by decide) ?_
  refine V.newA (atype := .int) (ty := .int) (t := 0) (N := 17) rfl aw_int rfl (fun _ h => h) rfl (fun _ => rfl) (by decide) (by decide) (by decide) (fun R h => by rw [← h, hR]; exact ⟨Nat.le_of_ble_eq_true rfl, Nat.le_of_ble_eq_true rfl⟩) d_Mo_init_15 ?_
  refine V.putF (r := 67) ok_Mo fl_Mo_13 (by decide) (by decide) rfl rfl rfl rfl rfl (fun _ => rfl) (fun _ => rfl) d_Mo_init_17 ?_
  refine V.aload_n d_Mo_init_20 rfl 0 rfl ?_
  refine V.bipush (v := 17) d_Mo_init_21 (by decide) ?_
  refine V.newA (atype := .int) (ty := .int) (t := 0) (N := 17) rfl aw_int rfl (fun _ h => h) rfl (fun _ => rfl) (by decide) (by decide) (by decide) (fun R h => by rw [← h, hR]; exact ⟨Nat.le_of_ble_eq_true rfl, Nat.le_of_ble_eq_true rfl⟩) d_Mo_init_23 ?_
  refine V.putF (r := 68) ok_Mo fl_Mo_16 (by decide) (by decide) rfl rfl rfl rfl rfl (fun _ => rfl) (fun _ => rfl) d_Mo_init_25 ?_
  refine V.aload_n d_Mo_init_28 rfl 0 rfl ?_
  refine V.bipush (v := 17) d_Mo_init_29 (by decide) ?_
  refine V.newA (atype := .int) (ty := .int) (t := 0) (N := 17) rfl aw_int rfl (fun _ h => h) rfl (fun _ => rfl) (by decide) (by decide) (by decide) (fun R h => by rw [← h, hR]; exact ⟨Nat.le_of_ble_eq_true rfl, Nat.le_of_ble_eq_true rfl⟩) d_Mo_init_31 ?_
  refine V.putF (r := 69) ok_Mo fl_Mo_19 (by decide) (by decide) rfl rfl rfl rfl rfl (fun _ => rfl) (fun _ => rfl) d_Mo_init_33 ?_
  refine V.aload_n d_Mo_init_36 rfl 0 rfl ?_
  refine V.bipush (v := 17) d_Mo_init_37 (by decide) ?_
  refine V.newA (atype := .int) (ty := .int) (t := 0) (N := 17) rfl aw_int rfl (fun _ h => h) rfl (fun _ => rfl) (by decide) (by decide) (by decide) (fun R h => by rw [← h, hR]; exact ⟨Nat.le_of_ble_eq_true rfl, Nat.le_of_ble_eq_true rfl⟩) d_Mo_init_39 ?_
  refine V.putF (r := 70) ok_Mo fl_Mo_22 (by decide) (by decide) rfl rfl rfl rfl rfl (fun _ => rfl) (fun _ => rfl) d_Mo_init_41 ?_
  refine V.aload_n d_Mo_init_44 rfl 0 rfl ?_
  refine V.bipush (v := 6) d_Mo_init_45 (by decide) ?_
  refine V.newA (atype := .int) (ty := .int) (t := 0) (N := 6) rfl aw_int rfl (fun _ h => h) rfl (fun _ => rfl) (by decide) (by decide) (by decide) (fun R h => by rw [← h, hR]; exact ⟨Nat.le_of_ble_eq_true rfl, Nat.le_of_ble_eq_true rfl⟩) d_Mo_init_47 ?_
  refine V.putF (r := 71) ok_Mo fl_Mo_25 (by decide) (by decide) rfl rfl rfl rfl rfl (fun _ => rfl) (fun _ => rfl) d_Mo_init_49 ?_
  refine V.aload_n d_Mo_init_52 rfl 0 rfl ?_
  refine V.sipush (v := 260) d_Mo_init_53 (by decide) ?_
  refine V.newA (atype := .byte) (ty := .byte) (t := 3) (N := 260) rfl aw_byte rfl (fun _ h => h) rfl (fun _ => rfl) (by decide) (by decide) (by decide) (fun R h => by rw [← h, hR]; exact ⟨Nat.le_of_ble_eq_true rfl, Nat.le_of_ble_eq_true rfl⟩) d_Mo_init_56 ?_
  refine V.putF (r := 72) ok_Mo fl_Mo_28 (by decide) (by decide) rfl rfl rfl rfl rfl (fun _ => rfl) (fun _ => rfl) d_Mo_init_58 ?_
  refine V.aload_n d_Mo_init_61 rfl 0 rfl ?_
  refine V.sipush (v := 260) d_Mo_init_62 (by decide) ?_
  refine V.newA (atype := .int) (ty := .int) (t := 0) (N := 260) rfl aw_int rfl (fun _ h => h) rfl (fun _ => rfl) (by decide) (by decide) (by decide) (fun R h => by rw [← h, hR]; exact ⟨Nat.le_of_ble_eq_true rfl, Nat.le_of_ble_eq_true rfl⟩) d_Mo_init_65 ?_
  refine V.putF (r := 73) ok_Mo fl_Mo_32 (by decide) (by decide) rfl rfl rfl rfl rfl (fun _ => rfl) (fun _ => rfl) d_Mo_init_67 ?_
  refine V.aload_n d_Mo_init_70 rfl 0 rfl ?_
  refine V.sipush (v := 260) d_Mo_init_71 (by decide) ?_
  refine V.newA (atype := .int) (ty := .int) (t := 0) (N := 260) rfl aw_int rfl (fun _ h => h) rfl (fun _ => rfl) (by decide) (by decide) (by decide) (fun R h => by rw [← h, hR]; exact ⟨Nat.le_of_ble_eq_true rfl, Nat.le_of_ble_eq_true rfl⟩) d_Mo_init_74 ?_
  refine V.putF (r := 74) ok_Mo fl_Mo_35 (by decide) (by decide) rfl rfl rfl rfl rfl (fun _ => rfl) (fun _ => rfl) d_Mo_init_76 ?_
  refine V.aload_n d_Mo_init_79 rfl 0 rfl ?_
  refine V.bipush (v := 16) d_Mo_init_80 (by decide) ?_
  refine V.newA (atype := .int) (ty := .int) (t := 0) (N := 16) rfl aw_int rfl (fun _ h => h) rfl (fun _ => rfl) (by decide) (by decide) (by decide) (fun R h => by rw [← h, hR]; exact ⟨Nat.le_of_ble_eq_true rfl, Nat.le_of_ble_eq_true rfl⟩) d_Mo_init_82 ?_
  refine V.putF (r := 75) ok_Mo fl_Mo_38 (by decide) (by decide) rfl rfl rfl rfl rfl (fun _ => rfl) (fun _ => rfl) d_Mo_init_84 ?_
  refine V.aload_n d_Mo_init_87 rfl 0 rfl ?_
  refine V.bipush (v := 16) d_Mo_init_88 (by decide) ?_
  refine V.newA (atype := .int) (ty := .int) (t := 0) (N := 16) rfl aw_int rfl (fun _ h => h) rfl (fun _ => rfl) (by decide) (by decide) (by decide) (fun R h => by rw [← h, hR]; exact ⟨Nat.le_of_ble_eq_true rfl, Nat.le_of_ble_eq_true rfl⟩) d_Mo_init_90 ?_
  refine V.putF (r := 76) ok_Mo fl_Mo_41 (by decide) (by decide) rfl rfl rfl rfl rfl (fun _ => rfl) (fun _ => rfl) d_Mo_init_92 ?_
  refine V.aload_n d_Mo_init_95 rfl 0 rfl ?_
  refine V.bipush (v := 16) d_Mo_init_96 (by decide) ?_
  refine V.newA (atype := .int) (ty := .int) (t := 0) (N := 16) rfl aw_int rfl (fun _ h => h) rfl (fun _ => rfl) (by decide) (by decide) (by decide) (fun R h => by rw [← h, hR]; exact ⟨Nat.le_of_ble_eq_true rfl, Nat.le_of_ble_eq_true rfl⟩) d_Mo_init_98 ?_
  refine V.putF (r := 77) ok_Mo fl_Mo_44 (by decide) (by decide) rfl rfl rfl rfl rfl (fun _ => rfl) (fun _ => rfl) d_Mo_init_100 ?_
  refine V.aload_n d_Mo_init_103 rfl 0 rfl ?_
  refine V.bipush (v := 16) d_Mo_init_104 (by decide) ?_
  refine V.newA (atype := .int) (ty := .int) (t := 0) (N := 16) rfl aw_int rfl (fun _ h => h) rfl (fun _ => rfl) (by decide) (by decide) (by decide) (fun R h => by rw [← h, hR]; exact ⟨Nat.le_of_ble_eq_true rfl, Nat.le_of_ble_eq_true rfl⟩) d_Mo_init_106 ?_
  refine V.putF (r := 78) ok_Mo fl_Mo_47 (by decide) (by decide) rfl rfl rfl rfl rfl (fun _ => rfl) (fun _ => rfl) d_Mo_init_108 ?_
  refine V.aload_n d_Mo_init_111 rfl 0 rfl ?_
  refine V.sipush (v := 260) d_Mo_init_112 (by decide) ?_
  refine V.newA (atype := .int) (ty := .int) (t := 0) (N := 260) rfl aw_int rfl (fun _ h => h) rfl (fun _ => rfl) (by decide) (by decide) (by decide) (fun R h => by rw [← h, hR]; exact ⟨Nat.le_of_ble_eq_true rfl, Nat.le_of_ble_eq_true rfl⟩) d_Mo_init_115 ?_
  refine V.putF (r := 79) ok_Mo fl_Mo_50 (by decide) (by decide) rfl rfl rfl rfl rfl (fun _ => rfl) (fun _ => rfl) d_Mo_init_117 ?_
  refine V.aload_n d_Mo_init_120 rfl 0 rfl ?_
  refine V.bipush (v := 16) d_Mo_init_121 (by decide) ?_
  refine V.newA (atype := .int) (ty := .int) (t := 0) (N := 16) rfl aw_int rfl (fun _ h => h) rfl (fun _ => rfl) (by decide) (by decide) (by decide) (fun R h => by rw [← h, hR]; exact ⟨Nat.le_of_ble_eq_true rfl, Nat.le_of_ble_eq_true rfl⟩) d_Mo_init_123 ?_
  refine V.putF (r := 80) ok_Mo fl_Mo_53 (by decide) (by decide) rfl rfl rfl rfl rfl (fun _ => rfl) (fun _ => rfl) d_Mo_init_125 ?_
  refine V.aload_n d_Mo_init_128 rfl 0 rfl ?_
  refine V.bipush (v := 16) d_Mo_init_129 (by decide) ?_
  refine V.newA (atype := .int) (ty := .int) (t := 0) (N := 16) rfl aw_int rfl (fun _ h => h) rfl (fun _ => rfl) (by decide) (by decide) (by decide) (fun R h => by rw [← h, hR]; exact ⟨Nat.le_of_ble_eq_true rfl, Nat.le_of_ble_eq_true rfl⟩) d_Mo_init_131 ?_
  refine V.putF (r := 81) ok_Mo fl_Mo_56 (by decide) (by decide) rfl rfl rfl rfl rfl (fun _ => rfl) (fun _ => rfl) d_Mo_init_133 ?_
  refine V.aload_n d_Mo_init_136 rfl 0 rfl ?_
  refine V.bipush (v := 16) d_Mo_init_137 (by decide) ?_
  refine V.newA (atype := .int) (ty := .int) (t := 0) (N := 16) rfl aw_int rfl (fun _ h => h) rfl (fun _ => rfl) (by decide) (by decide) (by decide) (fun R h => by rw [← h, hR]; exact ⟨Nat.le_of_ble_eq_true rfl, Nat.le_of_ble_eq_true rfl⟩) d_Mo_init_139 ?_
  refine V.putF (r := 82) ok_Mo fl_Mo_59 (by decide) (by decide) rfl rfl rfl rfl rfl (fun _ => rfl) (fun _ => rfl) d_Mo_init_141 ?_
  refine V.aload_n d_Mo_init_144 rfl 0 rfl ?_
  refine V.bipush (v := 16) d_Mo_init_145 (by decide) ?_
  refine V.newA (atype := .int) (ty := .int) (t := 0) (N := 16) rfl aw_int rfl (fun _ h => h) rfl (fun _ => rfl) (by decide) (by decide) (by decide) (fun R h => by rw [← h, hR]; exact ⟨Nat.le_of_ble_eq_true rfl, Nat.le_of_ble_eq_true rfl⟩) d_Mo_init_147 ?_
  refine V.putF (r := 83) ok_Mo fl_Mo_62 (by decide) (by decide) rfl rfl rfl rfl rfl (fun _ => rfl) (fun _ => rfl) d_Mo_init_149 ?_
  refine V.aload_n d_Mo_init_152 rfl 0 rfl ?_
  refine V.sipush (v := 260) d_Mo_init_153 (by decide) ?_
  refine V.newA (atype := .int) (ty := .int) (t := 0) (N := 260) rfl aw_int rfl (fun _ h => h) rfl (fun _ => rfl) (by decide) (by decide) (by decide) (fun R h => by rw [← h, hR]; exact ⟨Nat.le_of_ble_eq_true rfl, Nat.le_of_ble_eq_true rfl⟩) d_Mo_init_156 ?_
  refine V.putF (r := 84) ok_Mo fl_Mo_65 (by decide) (by decide) rfl rfl rfl rfl rfl (fun _ => rfl) (fun _ => rfl) d_Mo_init_158 ?_
  refine V.aload_n d_Mo_init_161 rfl 0 rfl ?_
  refine V.bipush (v := 9) d_Mo_init_162 (by decide) ?_
  refine V.newA (atype := .int) (ty := .int) (t := 0) (N := 9) rfl aw_int rfl (fun _ h => h) rfl (fun _ => rfl) (by decide) (by decide) (by decide) (fun R h => by rw [← h, hR]; exact ⟨Nat.le_of_ble_eq_true rfl, Nat.le_of_ble_eq_true rfl⟩) d_Mo_init_164 ?_
  refine V.putF (r := 85) ok_Mo fl_Mo_68 (by decide) (by decide) rfl rfl rfl rfl rfl (fun _ => rfl) (fun _ => rfl) d_Mo_init_166 ?_
  refine V.aload_n d_Mo_init_169 rfl 0 rfl ?_
  refine V.sipush (v := 3456) d_Mo_init_170 (by decide) ?_
  refine V.newA (atype := .int) (ty := .int) (t := 0) (N := 3456) rfl aw_int rfl (fun _ h => h) rfl (fun _ => rfl) (by decide) (by decide) (by decide) (fun R h => by rw [← h, hR]; exact ⟨Nat.le_of_ble_eq_true rfl, Nat.le_of_ble_eq_true rfl⟩) d_Mo_init_173 ?_
  refine V.putF (r := 86) ok_Mo fl_Mo_71 (by decide) (by decide) rfl rfl rfl rfl rfl (fun _ => rfl) (fun _ => rfl) d_Mo_init_175 ?_
  refine V.aload_n d_Mo_init_178 rfl 0 rfl ?_
  refine V.bipush (v := 24) d_Mo_init_179 (by decide) ?_
  refine V.newA (atype := .boolean) (ty := .boolean) (t := 1) (N := 24) rfl aw_boolean rfl (fun _ h => h) rfl (fun _ => rfl) (by decide) (by decide) (by decide) (fun R h => by rw [← h, hR]; exact ⟨Nat.le_of_ble_eq_true rfl, Nat.le_of_ble_eq_true rfl⟩) d_Mo_init_181 ?_
  refine V.putF (r := 87) ok_Mo fl_Mo_74 (by decide) (by decide) rfl rfl rfl rfl rfl (fun _ => rfl) (fun _ => rfl) d_Mo_init_183 ?_
  refine V.aload_n d_Mo_init_186 rfl 0 rfl ?_
  refine V.sipush (v := 144) d_Mo_init_187 (by decide) ?_
  refine V.newA (atype := .boolean) (ty := .boolean) (t := 1) (N := 144) rfl aw_boolean rfl (fun _ h => h) rfl (fun _ => rfl) (by decide) (by decide) (by decide) (fun R h => by rw [← h, hR]; exact ⟨Nat.le_of_ble_eq_true rfl, Nat.le_of_ble_eq_true rfl⟩) d_Mo_init_190 ?_
  refine V.putF (r := 88) ok_Mo fl_Mo_78 (by decide) (by decide) rfl rfl rfl rfl rfl (fun _ => rfl) (fun _ => rfl) d_Mo_init_192 ?_
  refine V.aload_n d_Mo_init_195 rfl 0 rfl ?_
  refine V.sipush (v := 1728) d_Mo_init_196 (by decide) ?_
  refine V.newA (atype := .int) (ty := .int) (t := 0) (N := 1728) rfl aw_int rfl (fun _ h => h) rfl (fun _ => rfl) (by decide) (by decide) (by decide) (fun R h => by rw [← h, hR]; exact ⟨Nat.le_of_ble_eq_true rfl, Nat.le_of_ble_eq_true rfl⟩) d_Mo_init_199 ?_
  refine V.putF (r := 89) ok_Mo fl_Mo_81 (by decide) (by decide) rfl rfl rfl rfl rfl (fun _ => rfl) (fun _ => rfl) d_Mo_init_201 ?_
  refine V.aload_n d_Mo_init_204 rfl 0 rfl ?_
  refine V.sipush (v := 144) d_Mo_init_205 (by decide) ?_
  refine V.newA (atype := .boolean) (ty := .boolean) (t := 1) (N := 144) rfl aw_boolean rfl (fun _ h => h) rfl (fun _ => rfl) (by decide) (by decide) (by decide) (fun R h => by rw [← h, hR]; exact ⟨Nat.le_of_ble_eq_true rfl, Nat.le_of_ble_eq_true rfl⟩) d_Mo_init_208 ?_
  refine V.putF (r := 90) ok_Mo fl_Mo_84 (by decide) (by decide) rfl rfl rfl rfl rfl (fun _ => rfl) (fun _ => rfl) d_Mo_init_210 ?_
  refine V.aload_n d_Mo_init_213 rfl 0 rfl ?_
  refine V.sipush (v := 144) d_Mo_init_214 (by decide) ?_
  refine V.newA (atype := .boolean) (ty := .boolean) (t := 1) (N := 144) rfl aw_boolean rfl (fun _ h => h) rfl (fun _ => rfl) (by decide) (by decide) (by decide) (fun R h => by rw [← h, hR]; exact ⟨Nat.le_of_ble_eq_true rfl, Nat.le_of_ble_eq_true rfl⟩) d_Mo_init_217 ?_
  refine V.putF (r := 91) ok_Mo fl_Mo_87 (by decide) (by decide) rfl rfl rfl rfl rfl (fun _ => rfl) (fun _ => rfl) d_Mo_init_219 ?_
  refine V.aload_n d_Mo_init_222 rfl 0 rfl ?_
  refine V.sipush (v := 144) d_Mo_init_223 (by decide) ?_
  refine V.newA (atype := .int) (ty := .int) (t := 0) (N := 144) rfl aw_int rfl (fun _ h => h) rfl (fun _ => rfl) (by decide) (by decide) (by decide) (fun R h => by rw [← h, hR]; exact ⟨Nat.le_of_ble_eq_true rfl, Nat.le_of_ble_eq_true rfl⟩) d_Mo_init_226 ?_
  refine V.putF (r := 92) ok_Mo fl_Mo_90 (by decide) (by decide) rfl rfl rfl rfl rfl (fun _ => rfl) (fun _ => rfl) d_Mo_init_228 ?_
  refine V.aload_n d_Mo_init_231 rfl 0 rfl ?_
  refine V.sipush (v := 144) d_Mo_init_232 (by decide) ?_
  refine V.newA (atype := .int) (ty := .int) (t := 0) (N := 144) rfl aw_int rfl (fun _ h => h) rfl (fun _ => rfl) (by decide) (by decide) (by decide) (fun R h => by rw [← h, hR]; exact ⟨Nat.le_of_ble_eq_true rfl, Nat.le_of_ble_eq_true rfl⟩) d_Mo_init_235 ?_
  refine V.putF (r := 93) ok_Mo fl_Mo_93 (by decide) (by decide) rfl rfl rfl rfl rfl (fun _ => rfl) (fun _ => rfl) d_Mo_init_237 ?_
  refine V.aload_n d_Mo_init_240 rfl 0 rfl ?_
  refine V.bipush (v := 8) d_Mo_init_241 (by decide) ?_
  refine V.newA (atype := .int) (ty := .int) (t := 0) (N := 8) rfl aw_int rfl (fun _ h => h) rfl (fun _ => rfl) (by decide) (by decide) (by decide) (fun R h => by rw [← h, hR]; exact ⟨Nat.le_of_ble_eq_true rfl, Nat.le_of_ble_eq_true rfl⟩) d_Mo_init_243 ?_
  refine V.putF (r := 94) ok_Mo fl_Mo_96 (by decide) (by decide) rfl rfl rfl rfl rfl (fun _ => rfl) (fun _ => rfl) d_Mo_init_245 ?_
  refine V.aload_n d_Mo_init_248 rfl 0 rfl ?_
  refine V.sipush (v := 256) d_Mo_init_249 (by decide) ?_
  refine V.newA (atype := .int) (ty := .int) (t := 0) (N := 256) rfl aw_int rfl (fun _ h => h) rfl (fun _ => rfl) (by decide) (by decide) (by decide) (fun R h => by rw [← h, hR]; exact ⟨Nat.le_of_ble_eq_true rfl, Nat.le_of_ble_eq_true rfl⟩) d_Mo_init_252 ?_
  refine V.putF (r := 95) ok_Mo fl_Mo_99 (by decide) (by decide) rfl rfl rfl rfl rfl (fun _ => rfl) (fun _ => rfl) d_Mo_init_254 ?_
  refine V.aload_n d_Mo_init_257 rfl 0 rfl ?_
  refine V.sipush (v := 256) d_Mo_init_258 (by decide) ?_
  refine V.newA (atype := .long) (ty := .long) (t := 2) (N := 256) rfl aw_long rfl (fun _ h => h) rfl (fun _ => rfl) (by decide) (by decide) (by decide) (fun R h => by rw [← h, hR]; exact ⟨Nat.le_of_ble_eq_true rfl, Nat.le_of_ble_eq_true rfl⟩) d_Mo_init_261 ?_
  refine V.putF (r := 96) ok_Mo fl_Mo_102 (by decide) (by decide) rfl rfl rfl rfl rfl (fun _ => rfl) (fun _ => rfl) d_Mo_init_263 ?_
  refine V.aload_n d_Mo_init_266 rfl 0 rfl ?_
  refine V.bipush (v := 8) d_Mo_init_267 (by decide) ?_
  refine V.newA (atype := .long) (ty := .long) (t := 2) (N := 8) rfl aw_long rfl (fun _ h => h) rfl (fun _ => rfl) (by decide) (by decide) (by decide) (fun R h => by rw [← h, hR]; exact ⟨Nat.le_of_ble_eq_true rfl, Nat.le_of_ble_eq_true rfl⟩) d_Mo_init_269 ?_
  refine V.putF (r := 97) ok_Mo fl_Mo_106 (by decide) (by decide) rfl rfl rfl rfl rfl (fun _ => rfl) (fun _ => rfl) d_Mo_init_271 ?_
  refine V.aload_n d_Mo_init_274 rfl 0 rfl ?_
  refine V.bipush (v := 8) d_Mo_init_275 (by decide) ?_
  refine V.newA (atype := .int) (ty := .int) (t := 0) (N := 8) rfl aw_int rfl (fun _ h => h) rfl (fun _ => rfl) (by decide) (by decide) (by decide) (fun R h => by rw [← h, hR]; exact ⟨Nat.le_of_ble_eq_true rfl, Nat.le_of_ble_eq_true rfl⟩) d_Mo_init_277 ?_
  refine V.putF (r := 98) ok_Mo fl_Mo_109 (by decide) (by decide) rfl rfl rfl rfl rfl (fun _ => rfl) (fun _ => rfl) d_Mo_init_279 ?_
  refine V.aload_n d_Mo_init_282 rfl 0 rfl ?_
  refine V.bipush (v := 16) d_Mo_init_283 (by decide) ?_
  refine V.newA (atype := .int) (ty := .int) (t := 0) (N := 16) rfl aw_int rfl (fun _ h => h) rfl (fun _ => rfl) (by decide) (by decide) (by decide) (fun R h => by rw [← h, hR]; exact ⟨Nat.le_of_ble_eq_true rfl, Nat.le_of_ble_eq_true rfl⟩) d_Mo_init_285 ?_
  refine V.putF (r := 99) ok_Mo fl_Mo_112 (by decide) (by decide) rfl rfl rfl rfl rfl (fun _ => rfl) (fun _ => rfl) d_Mo_init_287 ?_
  refine V.aload_n d_Mo_init_290 rfl 0 rfl ?_
  refine V.bipush (v := 16) d_Mo_init_291 (by decide) ?_
  refine V.newA (atype := .int) (ty := .int) (t := 0) (N := 16) rfl aw_int rfl (fun _ h => h) rfl (fun _ => rfl) (by decide) (by decide) (by decide) (fun R h => by rw [← h, hR]; exact ⟨Nat.le_of_ble_eq_true rfl, Nat.le_of_ble_eq_true rfl⟩) d_Mo_init_293 ?_
  refine V.putF (r := 100) ok_Mo fl_Mo_115 (by decide) (by decide) rfl rfl rfl rfl rfl (fun _ => rfl) (fun _ => rfl) d_Mo_init_295 ?_
  refine V.aload_n d_Mo_init_298 rfl 0 rfl ?_
  refine V.bipush (v := 16) d_Mo_init_299 (by decide) ?_
  refine V.newA (atype := .int) (ty := .int) (t := 0) (N := 16) rfl aw_int rfl (fun _ h => h) rfl (fun _ => rfl) (by decide) (by decide) (by decide) (fun R h => by rw [← h, hR]; exact ⟨Nat.le_of_ble_eq_true rfl, Nat.le_of_ble_eq_true rfl⟩) d_Mo_init_301 ?_
  refine V.putF (r := 101) ok_Mo fl_Mo_118 (by decide) (by decide) rfl rfl rfl rfl rfl (fun _ => rfl) (fun _ => rfl) d_Mo_init_303 ?_
  refine V.aload_n d_Mo_init_306 rfl 0 rfl ?_
  refine V.bipush (v := 16) d_Mo_init_307 (by decide) ?_
  refine V.newA (atype := .int) (ty := .int) (t := 0) (N := 16) rfl aw_int rfl (fun _ h => h) rfl (fun _ => rfl) (by decide) (by decide) (by decide) (fun R h => by rw [← h, hR]; exact ⟨Nat.le_of_ble_eq_true rfl, Nat.le_of_ble_eq_true rfl⟩) d_Mo_init_309 ?_
  refine V.putF (r := 102) ok_Mo fl_Mo_121 (by decide) (by decide) rfl rfl rfl rfl rfl (fun _ => rfl) (fun _ => rfl) d_Mo_init_311 ?_
  refine V.aload_n d_Mo_init_314 rfl 0 rfl ?_
  refine V.bipush (v := 16) d_Mo_init_315 (by decide) ?_
  refine V.newA (atype := .boolean) (ty := .boolean) (t := 1) (N := 16) rfl aw_boolean rfl (fun _ h => h) rfl (fun _ => rfl) (by decide) (by decide) (by decide) (fun R h => by rw [← h, hR]; exact ⟨Nat.le_of_ble_eq_true rfl, Nat.le_of_ble_eq_true rfl⟩) d_Mo_init_317 ?_
  refine V.putF (r := 103) ok_Mo fl_Mo_124 (by decide) (by decide) rfl rfl rfl rfl rfl (fun _ => rfl) (fun _ => rfl) d_Mo_init_319 ?_
  refine V.aload_n d_Mo_init_322 rfl 0 rfl ?_
  refine V.iconst (v := 3) d_Mo_init_323 (by decide) ?_
  refine V.newA (atype := .int) (ty := .int) (t := 0) (N := 3) rfl aw_int rfl (fun _ h => h) rfl (fun _ => rfl) (by decide) (by decide) (by decide) (fun R h => by rw [← h, hR]; exact ⟨Nat.le_of_ble_eq_true rfl, Nat.le_of_ble_eq_true rfl⟩) d_Mo_init_324 ?_
  refine V.putF (r := 104) ok_Mo fl_Mo_127 (by decide) (by decide) rfl rfl rfl rfl rfl (fun _ => rfl) (fun _ => rfl) d_Mo_init_326 ?_
  refine V.aload_n d_Mo_init_329 rfl 0 rfl ?_
  refine V.sipush (v := 3456) d_Mo_init_330 (by decide) ?_
  refine V.newA (atype := .boolean) (ty := .boolean) (t := 1) (N := 3456) rfl aw_boolean rfl (fun _ h => h) rfl (fun _ => rfl) (by decide) (by decide) (by decide) (fun R h => by rw [← h, hR]; exact ⟨Nat.le_of_ble_eq_true rfl, Nat.le_of_ble_eq_true rfl⟩) d_Mo_init_333 ?_
  refine V.putF (r := 105) ok_Mo fl_Mo_130 (by decide) (by decide) rfl rfl rfl rfl rfl (fun _ => rfl) (fun _ => rfl) d_Mo_init_335 ?_
  refine V.aload_n d_Mo_init_338 rfl 0 rfl ?_
  refine V.bipush (v := 16) d_Mo_init_339 (by decide) ?_
  refine V.newA (atype := .int) (ty := .int) (t := 0) (N := 16) rfl aw_int rfl (fun _ h => h) rfl (fun _ => rfl) (by decide) (by decide) (by decide) (fun R h => by rw [← h, hR]; exact ⟨Nat.le_of_ble_eq_true rfl, Nat.le_of_ble_eq_true rfl⟩) d_Mo_init_341 ?_
  refine V.putF (r := 106) ok_Mo fl_Mo_133 (by decide) (by decide) rfl rfl rfl rfl rfl (fun _ => rfl) (fun _ => rfl) d_Mo_init_343 ?_
  refine V.aload_n d_Mo_init_346 rfl 0 rfl ?_
  refine V.bipush (v := 16) d_Mo_init_347 (by decide) ?_
  refine V.newA (atype := .int) (ty := .int) (t := 0) (N := 16) rfl aw_int rfl (fun _ h => h) rfl (fun _ => rfl) (by decide) (by decide) (by decide) (fun R h => by rw [← h, hR]; exact ⟨Nat.le_of_ble_eq_true rfl, Nat.le_of_ble_eq_true rfl⟩) d_Mo_init_349 ?_
  refine V.putF (r := 107) ok_Mo fl_Mo_136 (by decide) (by decide) rfl rfl rfl rfl rfl (fun _ => rfl) (fun _ => rfl) d_Mo_init_351 ?_
  refine V.aload_n d_Mo_init_354 rfl 0 rfl ?_
  refine V.bipush (v := 8) d_Mo_init_355 (by decide) ?_
  refine V.newA (atype := .int) (ty := .int) (t := 0) (N := 8) rfl aw_int rfl (fun _ h => h) rfl (fun _ => rfl) (by decide) (by decide) (by decide) (fun R h => by rw [← h, hR]; exact ⟨Nat.le_of_ble_eq_true rfl, Nat.le_of_ble_eq_true rfl⟩) d_Mo_init_357 ?_
  refine V.putF (r := 108) ok_Mo fl_Mo_139 (by decide) (by decide) rfl rfl rfl rfl rfl (fun _ => rfl) (fun _ => rfl) d_Mo_init_359 ?_
  refine V.aload_n d_Mo_init_362 rfl 0 rfl ?_
  refine V.bipush (v := 17) d_Mo_init_363 (by decide) ?_
  refine V.newA (atype := .int) (ty := .int) (t := 0) (N := 17) rfl aw_int rfl (fun _ h => h) rfl (fun _ => rfl) (by decide) (by decide) (by decide) (fun R h => by rw [← h, hR]; exact ⟨Nat.le_of_ble_eq_true rfl, Nat.le_of_ble_eq_true rfl⟩) d_Mo_init_365 ?_
  refine V.putF (r := 109) ok_Mo fl_Mo_142 (by decide) (by decide) rfl rfl rfl rfl rfl (fun _ => rfl) (fun _ => rfl) d_Mo_init_367 ?_
  refine V.aload_n d_Mo_init_370 rfl 0 rfl ?_
  refine V.bipush (v := 17) d_Mo_init_371 (by decide) ?_
  refine V.newA (atype := .int) (ty := .int) (t := 0) (N := 17) rfl aw_int rfl (fun _ h => h) rfl (fun _ => rfl) (by decide) (by decide) (by decide) (fun R h => by rw [← h, hR]; exact ⟨Nat.le_of_ble_eq_true rfl, Nat.le_of_ble_eq_true rfl⟩) d_Mo_init_373 ?_
  refine V.putF (r := 110) ok_Mo fl_Mo_145 (by decide) (by decide) rfl rfl rfl rfl rfl (fun _ => rfl) (fun _ => rfl) d_Mo_init_375 ?_
  refine V.aload_n d_Mo_init_378 rfl 0 rfl ?_
  refine V.bipush (v := 17) d_Mo_init_379 (by decide) ?_
  refine V.newA (atype := .int) (ty := .int) (t := 0) (N := 17) rfl aw_int rfl (fun _ h => h) rfl (fun _ => rfl) (by decide) (by decide) (by decide) (fun R h => by rw [← h, hR]; exact ⟨Nat.le_of_ble_eq_true rfl, Nat.le_of_ble_eq_true rfl⟩) d_Mo_init_381 ?_
  refine V.putF (r := 111) ok_Mo fl_Mo_148 (by decide) (by decide) rfl rfl rfl rfl rfl (fun _ => rfl) (fun _ => rfl) d_Mo_init_383 ?_
  refine V.aload_n d_Mo_init_386 rfl 0 rfl ?_
  refine V.bipush (v := 17) d_Mo_init_387 (by decide) ?_
  refine V.newA (atype := .int) (ty := .int) (t := 0) (N := 17) rfl aw_int rfl (fun _ h => h) rfl (fun _ => rfl) (by decide) (by decide) (by decide) (fun R h => by rw [← h, hR]; exact ⟨Nat.le_of_ble_eq_true rfl, Nat.le_of_ble_eq_true rfl⟩) d_Mo_init_389 ?_
  refine V.putF (r := 112) ok_Mo fl_Mo_151 (by decide) (by decide) rfl rfl rfl rfl rfl (fun _ => rfl) (fun _ => rfl) d_Mo_init_391 ?_
  refine V.aload_n d_Mo_init_394 rfl 0 rfl ?_
  refine V.bipush (v := 17) d_Mo_init_395 (by decide) ?_
  refine V.newA (atype := .int) (ty := .int) (t := 0) (N := 17) rfl aw_int rfl (fun _ h => h) rfl (fun _ => rfl) (by decide) (by decide) (by decide) (fun R h => by rw [← h, hR]; exact ⟨Nat.le_of_ble_eq_true rfl, Nat.le_of_ble_eq_true rfl⟩) d_Mo_init_397 ?_
  refine V.putF (r := 113) ok_Mo fl_Mo_154 (by decide) (by decide) rfl rfl rfl rfl rfl (fun _ => rfl) (fun _ => rfl) d_Mo_init_399 ?_
  refine V.aload_n d_Mo_init_402 rfl 0 rfl ?_
  refine V.bipush (v := 17) d_Mo_init_403 (by decide) ?_
  refine V.newA (atype := .int) (ty := .int) (t := 0) (N := 17) rfl aw_int rfl (fun _ h => h) rfl (fun _ => rfl) (by decide) (by decide) (by decide) (fun R h => by rw [← h, hR]; exact ⟨Nat.le_of_ble_eq_true rfl, Nat.le_of_ble_eq_true rfl⟩) d_Mo_init_405 ?_
  refine V.putF (r := 114) ok_Mo fl_Mo_157 (by decide) (by decide) rfl rfl rfl rfl rfl (fun _ => rfl) (fun _ => rfl) d_Mo_init_407 ?_
  refine V.aload_n d_Mo_init_410 rfl 0 rfl ?_
  refine V.bipush (v := 6) d_Mo_init_411 (by decide) ?_
  refine V.newA (atype := .int) (ty := .int) (t := 0) (N := 6) rfl aw_int rfl (fun _ h => h) rfl (fun _ => rfl) (by decide) (by decide) (by decide) (fun R h => by rw [← h, hR]; exact ⟨Nat.le_of_ble_eq_true rfl, Nat.le_of_ble_eq_true rfl⟩) d_Mo_init_413 ?_
  refine V.putF (r := 115) ok_Mo fl_Mo_160 (by decide) (by decide) rfl rfl rfl rfl rfl (fun _ => rfl) (fun _ => rfl) d_Mo_init_415 ?_
  refine V.aload_n d_Mo_init_418 rfl 0 rfl ?_
  refine V.iconst (v := 1) d_Mo_init_419 (by decide) ?_
  refine V.putI ok_Mo fl_Mo_163 (by decide) (by decide) rfl rfl rfl rfl rfl d_Mo_init_420 ?_
  exact V.vret rfl d_Mo_init_423 ⟨rfl, rfl⟩

