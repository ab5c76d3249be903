-- part ss: one sale on both sides
theorem shw_k {σ σ' : Mem} {ms : List Nat} {fs : List (Nat × Nat)} (W : LW) (h : Nat) (h0 : mI σ' 19 8 = mI σ 19 8) (h1 : mI σ' 38 = mI σ 38) (h2 : mI σ' 39 = mI σ 39) (h3 : mI σ' 48 = mI σ 48) : shF σ' h = shF σ h ∧ wF W σ' h = wF W σ h :=
  ⟨funext fun q => by unfold shF; rw [who_k h1 h2], funext fun b => funext fun q => by unfold wF; rw [wth_k W h0 h1 h2 h3]⟩
theorem sale_core {N : Nat} {σ1 : Mem} {W : LW} {h m : Nat} (hN : 70000 ≤ N) (I1 : Inv N σ1) (R1 : Rdy σ1) (L1 : DayL N σ1 W) (hh : h < 24) (hm : m < 256) : ∃ σ2 σ3 σ4, f_Ma_sell N σ1 (nI h) (nI m) = some σ2 ∧ f_Mo_laysDay N σ2 = some σ3 ∧ f_Mo_laysSale N σ3 (nI h) (nI m) = some σ4 ∧ Inv N σ4 ∧ f_Ma_together σ2 = some (mI σ4 65 53) ∧ ∀ b, b < 8 → m.testBit b = true → ∃ x : Nat, f_Ma_squareOf σ2 (nI b) = some (nI x) ∧ mL σ4 97 b ≠ 0 ∧ ((mL σ4 65 54 / mL σ4 97 b) - (mL σ4 65 54 / mL σ4 97 b) / 145 * 145).toInt32 = nI x ∧ ∃ (σ5 : Mem) (own : Int32), (if nI x = 144 then some (0, σ4) else bnd2 (f_Mo_worthOf N σ4 (nI b) (nI x) (nI h)) fun r s => some (r, s)) = some (own, σ5) ∧ ∃ (σ6 : Mem) (p : Int32), f_Mo_saleWithout N σ5 (nI h) (nI m) (nI b) = some (p, σ6) ∧ Inv N σ6 ∧ f_Ma_pays N σ2 (nI b) = some (p - (mI σ5 65 53 - own)) := by
  obtain ⟨σ2, a1, ⟨vC, c1, c2, c3⟩, a3, a4, a5⟩ := ma_sell (N := N) (by omega) I1 R1 L1 hh hm
  have F2 : FS σ1 σ2 := fm_Ma_sell a1
  have I2 := I1.k (F2.keeps (by decide))
  have R2 := R1.k (F2.keeps (by decide))
  obtain ⟨σ3, d1, D3, I3, R3, F3⟩ := mo_laysDay hN I2 R2
  have L3 : DayL N σ3 W := (L1.k (F2.keeps (by decide))).k (F3.keeps (by decide))
  obtain ⟨σ4, g1, ⟨vR, g2, g3, g4⟩, g5⟩ := mo_laysSale (N := N) (by omega) I3 R3 L3 D3 hh hm
  have F4 : FQ σ3 σ4 := fm_Mo_laysSale g1
  have k3 := shw_k (ms := []) (fs := []) W h ((F3.I 19 8 (by decide) (by decide)).trans (F2.I 19 8 (by decide) (by decide))) ((F3.rowI 38 (by decide) (by decide)).trans (F2.rowI 38 (by decide) (by decide))) ((F3.rowI 39 (by decide) (by decide)).trans (F2.rowI 39 (by decide) (by decide))) ((F3.rowI 48 (by decide) (by decide)).trans (F2.rowI 48 (by decide) (by decide)))
  rw [k3.1, k3.2] at g2
  have hw : ∀ b q, wF W σ1 h b q ≤ 999 := fun b q => (wF_ok W σ1 h b q).1
  obtain ⟨S, r, s1, s2, s3, s4, s5, s6⟩ := sale_both (fun _ z => z) g2 c3
  have ha := vl_le hw S r
  have hE := HRK_lt (m := m) (sh := shF σ1 h) (w := wF W σ1 h) (S := S) (r := r)
  have hr144 : ∀ i, i < 8 → S.testBit i = true → r i < 144 := fun i hi z => (s3.1 i hi z).1
  rw [s4] at g3
  rw [s5] at g4
  rw [s6] at c2
  refine ⟨σ2, σ3, σ4, a1, d1, g1, I3.k (F4.keeps (by decide)), ?_, fun b hb hbm => ?_⟩
  · unfold f_Ma_together; rw [c2, cls_sum hE ha, g3]
  · obtain ⟨q1, q2⟩ := cls_square hb hbm ha s3 c2 (a4 b hb)
    have hu := PRM_le (m := m) (b := b)
    refine ⟨rr m S r b, q1, ?_, ?_, ?_⟩
    · rw [g5 b hb hbm]
      exact fun z => absurd ((pk_lEQ (b := 0) (by omega) (by decide)).mp z) (by omega)
    · rw [g4, g5 b hb hbm]; exact ref_dig hb hbm hr144
    · have hown : ∃ σ5 : Mem, FQ σ3 σ5 ∧ mI σ5 65 53 = mI σ4 65 53 ∧ (if nI (rr m S r b) = 144 then some (0, σ4) else bnd2 (f_Mo_worthOf N σ4 (nI b) (nI (rr m S r b)) (nI h)) fun r s => some (r, s)) = some ((if S.testBit b = true then nI (wF W σ1 h b (r b)) else 0), σ5) := by
        unfold rr
        rw [if_pos hbm]
        by_cases c : S.testBit b = true
        · have hq := hr144 b hb c
          obtain ⟨σ5, e5⟩ := fq_worth (N := N) (by omega) I3 R3 L3 D3 hh F4 hb hq
          rw [k3.2] at e5
          have F5 := fm_Mo_worthOf e5
          refine ⟨σ5, F4.c F5 (by decide) (by simp), F5.I 65 53 (by decide) (by simp), ?_⟩
          rw [if_pos c, if_pos c, if_neg (show ¬ nI (r b) = 144 from fun z => absurd ((nI_eq (b := 144) (by omega) (by decide)).mp z) (by omega)), e5]; rfl
        · refine ⟨σ4, F4, rfl, ?_⟩
          rw [if_neg c, if_neg c, if_pos (show nI 144 = 144 from rfl)]
      obtain ⟨σ5, G5, e53, eown⟩ := hown
      refine ⟨σ5, _, eown, ?_⟩
      have hrl := rmv_lt hbm
      obtain ⟨σ6, h1, ⟨vR', h2, h3, -⟩, -⟩ := mo_laysSale (N := N) (σ0 := σ5) (W := W) (m := rmv m b) (by omega) (I3.k (G5.keeps (by decide))) (R3.k (G5.keeps (by decide))) (L3.k (G5.keeps (by decide))) (D3.k (G5.keeps (by decide))) hh (by omega)
      have k5 := shw_k (ms := []) (fs := []) W h (G5.I 19 8 (by decide) (by decide)) (G5.rowI 38 (by decide) (by decide)) (G5.rowI 39 (by decide) (by decide)) (G5.rowI 48 (by decide) (by decide))
      rw [k5.1, k5.2, k3.1, k3.2] at h2
      have hsub : sbs (rmv m b) m := fun j hj => ((rmv_sub hbm).mp hj).1
      obtain ⟨v', v1, v2, v3⟩ := ma_best (N := N) (σ := σ2) (T := DD (oC m (shF σ1 h) (wF W σ1 h)) 144) (m := rmv m b) (by omega) (DDC_lt hw) (DD_zero _ 144) (fun S' z1 z2 => a5 S' z1 (fun j hj => hsub j (z2 j hj)))
      obtain ⟨S', r', t1, t2, t3, t4, t5, t6⟩ := sale_both hsub h2 v3
      have F6 : FQ σ5 σ6 := fm_Mo_laysSale h1
      refine ⟨σ6, nI (vl (wF W σ1 h) S' r'), ?_, (I3.k (G5.keeps (by decide))).k (F6.keeps (by decide)), ?_⟩
      · unfold f_Mo_saleWithout
        rw [rmv_and hm hb hbm, h1]
        simp only [bnd1_s]
        rw [h3, t4]
      · rw [e53, g3]
        exact q2 N (by omega) _ _ hE (HRK_lt (m := m) (sh := shF σ1 h) (w := wF W σ1 h) (S := S') (r := r')) _ (vl_le hw S' r') c2 (by rw [a3, rmv_and hm hb hbm, v2, t6])
