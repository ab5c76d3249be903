set_option maxHeartbeats 4000000 in
set_option maxRecDepth 100000 in
/-- what the Statement gives of the String constants -/
theorem str_start {s : State} {b : Nat} (hgv : (Jvm.Cond.and given_1 narrow_1).before #[Value.ref b] s = true) : ∃ adK adV : Nat → Nat, vk_S 5 strLen strByt adK adV (fun q => s.heap.size ≤ q) s s.heap ∧ ∀ i : Nat, i < 5 → (Term.string "ShadeTown$LawReader" (strIx.getD i 0)).eval #[Value.ref b] s none [] s = some (.ref (adK i)) := by
  have hs := flat_of_before _ hgv
  refine vk_Sof (tm := fun i => Term.string "ShadeTown$LawReader" (strIx.getD i 0)) ?_ ?_ ?_ ?_ ?_ ?_ ?_ (fun a h => Nat.not_le.mpr h)
  · intro i hi
    rcases (show i = 0 ∨ i = 1 ∨ i = 2 ∨ i = 3 ∨ i = 4 by omega) with rfl | rfl | rfl | rfl | rfl <;> decide
  · intro i hi
    rcases (show i = 0 ∨ i = 1 ∨ i = 2 ∨ i = 3 ∨ i = 4 by omega) with rfl | rfl | rfl | rfl | rfl <;> exact hs _ (by decide +kernel)
  · intro i hi
    rcases (show i = 0 ∨ i = 1 ∨ i = 2 ∨ i = 3 ∨ i = 4 by omega) with rfl | rfl | rfl | rfl | rfl <;> exact hs _ (by decide +kernel)
  · intro i hi
    rcases (show i = 0 ∨ i = 1 ∨ i = 2 ∨ i = 3 ∨ i = 4 by omega) with rfl | rfl | rfl | rfl | rfl <;> exact hs _ (by decide +kernel)
  · intro i hi
    rcases (show i = 0 ∨ i = 1 ∨ i = 2 ∨ i = 3 ∨ i = 4 by omega) with rfl | rfl | rfl | rfl | rfl <;> exact hs _ (by decide +kernel)
  · intro i hi j hj
    have hall : ∀ i : Fin 5, ∀ j : Fin 9, j.val < strLen.getD i.val 0 → (Cond.eq (.elem (.field (Term.string "ShadeTown$LawReader" (strIx.getD i.val 0)) "java/lang/String" "value" "[B") (.int (Int32.ofNat j.val))) (.int ((strByt.getD i.val []).getD j.val 0))) ∈ flatC (Jvm.Cond.and given_1 narrow_1) := by decide +kernel
    have h9 : j < 9 := by
      rcases (show i = 0 ∨ i = 1 ∨ i = 2 ∨ i = 3 ∨ i = 4 by omega) with rfl | rfl | rfl | rfl | rfl <;> simp [strLen] at hj <;> omega
    exact hs _ (hall ⟨i, hi⟩ ⟨j, h9⟩ hj)
  · intro i j hi hj hne
    have hall : ∀ i j : Fin 5, i ≠ j → (Cond.not (Cond.eq (Term.string "ShadeTown$LawReader" (strIx.getD i.val 0)) (Term.string "ShadeTown$LawReader" (strIx.getD j.val 0)))) ∈ flatC (Jvm.Cond.and given_1 narrow_1) ∨ (Cond.not (Cond.eq (Term.string "ShadeTown$LawReader" (strIx.getD j.val 0)) (Term.string "ShadeTown$LawReader" (strIx.getD i.val 0)))) ∈ flatC (Jvm.Cond.and given_1 narrow_1) := by decide +kernel
    rcases hall ⟨i, hi⟩ ⟨j, hj⟩ (fun h => hne (congrArg Fin.val h)) with h | h
    · exact Or.inl (hs _ h)
    · exact Or.inr (hs _ h)
theorem arr_start {args : Array Value} {s : State} {ty : FieldType} (h : (Cond.arrayClass ty).before args s = true) : ∃ cA : ClassId, ArrOfT s cA ty ∧ s.vm.findClass ("[" ++ ty.toString) = some cA := by
  obtain ⟨cA, kA, comp, h1, h2, h3⟩ := Cond.arrayClass_spec h
  exact ⟨cA, fun n z => ⟨fun k h => (by cases h), kA, h2, comp, h3⟩, h1⟩
set_option maxHeartbeats 4000000 in
set_option maxRecDepth 100000 in
/-- all that holds of the machine's tables at the law's start -/
theorem kn_start {s : State} {b : Nat} (l : Launch) (hts : ∀ w ∈ lw_tbl, w.before #[Value.ref b] s = true) (hgv : (Jvm.Cond.and given_1 narrow_1).before #[Value.ref b] s = true) : ∃ Z : ZX, Z.1 = l ∧ Z.2.2.2.1 = s.heap.size ∧ Z.2.2.2.2.1 = s.heap ∧ Kn (mkB0 Z) s := by
  obtain ⟨adK, adV, hS, hR⟩ := str_start hgv
  obtain ⟨c0, i0, hKn0⟩ := u_known (C := R_Sh) (T := T_Sh) (N := 13) (n := 13) hts (fun w hw => tblG_in w (ok_Sh.2.1 w hw)) (hts (.instantiable R_Sh 13) (tblG_in _ iw_Sh.1))
  obtain ⟨c1, i1, hKn1⟩ := u_known (C := R_Ta) (T := T_Ta) (N := 2) (n := 2) hts (fun w hw => tblG_in w (ok_Ta.2.1 w hw)) (hts (.instantiable R_Ta 2) (tblG_in _ iw_Ta.1))
  obtain ⟨c2, i2, hKn2⟩ := u_known (C := R_La) (T := T_La) (N := 8) (n := 8) hts (fun w hw => tblG_in w (ok_La.2.1 w hw)) (hts (.instantiable R_La 8) (tblG_in _ iw_La.1))
  obtain ⟨c3, i3, hKn3⟩ := u_known (C := R_Rd) (T := T_Rd) (N := 6) (n := 6) hts (fun w hw => tblG_in w (ok_Rd.2.1 w hw)) (hts (.instantiable R_Rd 6) (tblG_in _ iw_Rd.1))
  obtain ⟨c4, i4, hKn4⟩ := u_known (C := R_To) (T := T_To) (N := 10) (n := 10) hts (fun w hw => tblG_in w (ok_To.2.1 w hw)) (hts (.instantiable R_To 10) (tblG_in _ iw_To.1))
  obtain ⟨c5, i5, hKn5⟩ := u_known (C := R_Da) (T := T_Da) (N := 11) (n := 11) hts (fun w hw => tblG_in w (ok_Da.2.1 w hw)) (hts (.instantiable R_Da 11) (tblG_in _ iw_Da.1))
  obtain ⟨c6, i6, hKn6⟩ := u_known (C := R_St) (T := T_St) (N := 4) (n := 4) hts (fun w hw => tblG_in w (ok_St.2.1 w hw)) (hts (.instantiable R_St 4) (tblG_in _ iw_St.1))
  obtain ⟨c7, i7, hKn7⟩ := u_known (C := R_Wa) (T := T_Wa) (N := 2) (n := 2) hts (fun w hw => tblG_in w (ok_Wa.2.1 w hw)) (hts (.instantiable R_Wa 2) (tblG_in _ iw_Wa.1))
  obtain ⟨c8, i8, hKn8⟩ := u_known (C := R_Ma) (T := T_Ma) (N := 11) (n := 11) hts (fun w hw => tblG_in w (ok_Ma.2.1 w hw)) (hts (.instantiable R_Ma 11) (tblG_in _ iw_Ma.1))
  obtain ⟨c9, i9, hKn9⟩ := u_known (C := R_Wi) (T := T_Wi) (N := 7) (n := 7) hts (fun w hw => tblG_in w (ok_Wi.2.1 w hw)) (hts (.instantiable R_Wi 7) (tblG_in _ iw_Wi.1))
  obtain ⟨c10, i10, hKn10⟩ := u_known (C := R_Cl) (T := T_Cl) (N := 1) (n := 1) hts (fun w hw => tblG_in w (ok_Cl.2.1 w hw)) (hts (.instantiable R_Cl 1) (tblG_in _ iw_Cl.1))
  obtain ⟨c11, i11, hKn11⟩ := u_known (C := R_Mo) (T := T_Mo) (N := 79) (n := 79) hts (fun w hw => tblG_in w (ok_Mo.2.1 w hw)) (hts (.instantiable R_Mo 79) (tblG_in _ iw_Mo.1))
  obtain ⟨aI, hI1, hI2⟩ := arr_start (hts (.arrayClass .int) (tblG_in _ aw_int))
  obtain ⟨aZ, hZ1, hZ2⟩ := arr_start (hts (.arrayClass .boolean) (tblG_in _ aw_boolean))
  obtain ⟨aL, hL1, hL2⟩ := arr_start (hts (.arrayClass .long) (tblG_in _ aw_long))
  obtain ⟨aB, hB1, hB2⟩ := arr_start (hts (.arrayClass .byte) (tblG_in _ aw_byte))
  refine ⟨(l, ((fun k => [c0, c1, c2, c3, c4, c5, c6, c7, c8, c9, c10, c11].getD k c0), (fun k => [i0, i1, i2, i3, i4, i5, i6, i7, i8, i9, i10, i11].getD k i0)), (fun ty => match ty with
    | .int => aI
    | .boolean => aZ
    | .long => aL
    | _ => aB), s.heap.size, s.heap, adK, adV), rfl, rfl, rfl, ⟨?_, ?_⟩, ?_, ?_, hS, ?_⟩
  · intro k q hq
    match k, hq with
    | 0, hq => cases hq; exact hKn0
    | 1, hq => cases hq; exact hKn1
    | 2, hq => cases hq; exact hKn2
    | 3, hq => cases hq; exact hKn3
    | 4, hq => cases hq; exact hKn4
    | 5, hq => cases hq; exact hKn5
    | 6, hq => cases hq; exact hKn6
    | 7, hq => cases hq; exact hKn7
    | 8, hq => cases hq; exact hKn8
    | 9, hq => cases hq; exact hKn9
    | 10, hq => cases hq; exact hKn10
    | 11, hq => cases hq; exact hKn11
    | k + 12, hq => simp [classes] at hq
  · intro k q hq
    match k, hq with
    | 0, hq => cases hq; exact ⟨hI1, hI2⟩
    | 1, hq => cases hq; exact ⟨hZ1, hZ2⟩
    | 2, hq => cases hq; exact ⟨hL1, hL2⟩
    | 3, hq => cases hq; exact ⟨hB1, hB2⟩
    | k + 4, hq => simp [tysB] at hq
  · intro w hw
    exact va_Nw.of (by simp only [nestW, List.mem_cons, List.not_mem_nil, or_false] at hw; rcases hw with rfl | rfl | rfl | rfl | rfl | rfl | rfl | rfl | rfl | rfl | rfl | rfl | rfl | rfl <;> rfl) (hts w (nestW_in w hw))
  · intro i hi
    have hw : ∀ i : Fin 5, Cond.stringRef "ShadeTown$LawReader" (strIx.getD i.val 0) (strTx.getD i.val "") ∈ lw_tbl := by decide +kernel
    exact vk_R.of (A := #[Value.ref b]) (hts _ (hw ⟨i, hi⟩)) (hR i hi)
  · have hs := flat_of_before _ hgv
    exact va_Zof (args := #[Value.ref b]) (hts _ (by decide +kernel)) (hts _ (by decide +kernel)) (va_eqt (hs (Cond.eq (Term.static "java/lang/String" "COMPACT_STRINGS" "Z") (Term.int 1)) (by decide +kernel))) (fun a h => Nat.not_le.mpr h)
