-- part kk: the class sells
def shF (σ : Mem) (h q : Nat) : Bool := decide (who σ h q ≠ 0)
def wF (W : LW) (σ : Mem) (h b q : Nat) : Nat := (wth W σ b h q).toNatClampNeg
theorem wF_ok (W : LW) (σ : Mem) (h b q : Nat) : wF W σ h b q ≤ 999 ∧ wth W σ b h q = nI (wF W σ h b q) := by
  obtain ⟨w, h1, h2⟩ := wth_in W σ b h q
  unfold wF
  rw [h2, nI_clamp (by omega)]
  exact ⟨h1, rfl⟩
abbrev FS (σ σ' : Mem) : Prop := Fr [8, 9, 49, 50, 51, 52, 53, 54] [(47, 9), (47, 10)] σ σ'
theorem TM.k {σ σ' : Mem} {b : Nat} {t : TL} (g : TM σ b t) (h1 : mI σ' 49 = mI σ 49) (h2 : mI σ' 50 = mI σ 50) (h3 : mI σ' 51 = mI σ 51) : TM σ' b t := by
  unfold TM; rw [h1, h2, h3]; exact g
section SaleC
variable {N : Nat} {σ0 : Mem} {W : LW} {h : Nat}
theorem fs_worth (hN : 1000 < N) (hI : Inv N σ0) (hR : Rdy σ0) (hL : DayL N σ0 W) (hh : h < 24) {σ : Mem} (F : FS σ0 σ) {b q : Nat} (hb : b < 8) (hq : q < 144) : ∃ σ', f_Ma_worthOf N σ (nI b) (nI q) (nI h) = some (nI (wF W σ0 h b q), σ') := by
  obtain ⟨s, e⟩ := da_worthOf (N := N) (σ := σ) (W := W) (by omega) (hI.k (F.keeps (by decide))) (hR.k (F.keeps (by decide))) (hL.k (F.keeps (by decide))) hb hh hq
  rw [wth_k W (F.I 19 8 (by decide) (by decide)) (F.rowI 38 (by decide) (by decide)) (F.rowI 39 (by decide) (by decide)) (F.rowI 48 (by decide) (by decide)), (wF_ok W σ0 h b q).2] at e
  exact ⟨s, e⟩
theorem fs_who (hh : h < 24) {σ : Mem} (F : FS σ0 σ) {q : Nat} (hq : q < 144) : f_Da_whoCasts σ (nI h) (nI q) = some (who σ0 h q) := by
  rw [da_whoCasts hh hq, who_k (F.rowI 38 (by decide) (by decide)) (F.rowI 39 (by decide) (by decide))]
theorem ma_find (hN : 1000 < N) (hI : Inv N σ0) (hR : Rdy σ0) (hL : DayL N σ0 W) (hh : h < 24) {σ : Mem} (F : FS σ0 σ) {b : Nat} (hb : b < 8) (e0 : mI σ 51 b = nI 0) : ∃ σ', f_Ma_findWanted N σ (nI b) (nI h) = some σ' ∧ TM σ' b (top8 (shF σ0 h) (wF W σ0 h b) 144) ∧ Oth b σ σ' := by
  refine loopR (L := fun z (x : Int32 × Mem) => L_Ma_findWanted_l3 N (nI b) (nI h) z x.1 x.2) (P := fun i x => x.1 = nI i ∧ FS σ0 x.2 ∧ TM x.2 b (top8 (shF σ0 h) (wF W σ0 h b) i) ∧ Oth b σ x.2) (a := (0, σ)) 144 ?_ ?_ (by omega) ⟨rfl, F, ⟨Nat.zero_le _, e0, fun i hi => absurd hi (Nat.not_lt_zero i)⟩, fun _ _ => ⟨rfl, rfl⟩, fun _ _ => rfl⟩
  · rintro z i ⟨x, s⟩ hi ⟨h1, h2, h3, h4⟩
    change x = _ at h1
    subst h1
    right
    by_cases c : who σ0 h i = 0
    · refine ⟨(nI (i + 1), s), ?_, rfl, h2, ?_, h4⟩
      · show B_Ma_findWanted_l3 N (nI b) (nI h) (L_Ma_findWanted_l3 N (nI b) (nI h) z) (nI i) s = _
        unfold B_Ma_findWanted_l3
        rw [if_neg (show ¬ ((144 : Int32) ≤ nI i) from nI_ge (b := 144) hi (by decide)), fs_who hh h2 hi]
        simp only [bnd1_s]
        rw [if_pos c]
        simp only [bnd1_s, letv, nI_1]
      · show TM s b (if shF σ0 h i = true then _ else _)
        rw [if_neg (by unfold shF; simp [c])]
        exact h3
    · obtain ⟨s1, q1⟩ := fs_worth hN hI hR hL hh h2 hb hi
      have F1 := fm_Ma_worthOf q1
      obtain ⟨s2, q2, q3, q4⟩ := ma_want (N := N) (σ := s1) (by omega) hb hi (wF_ok W σ0 h b i).1 (h3.k (F1.rowI 49 (by decide) (by simp)) (F1.rowI 50 (by decide) (by simp)) (F1.rowI 51 (by decide) (by simp)))
      have F2 := fm_Ma_want q2
      refine ⟨(nI (i + 1), s2), ?_, rfl, (h2.c F1 (by decide) (by simp)).c F2 (by decide) (by simp), ?_, ?_⟩
      · show B_Ma_findWanted_l3 N (nI b) (nI h) (L_Ma_findWanted_l3 N (nI b) (nI h) z) (nI i) s = _
        unfold B_Ma_findWanted_l3
        rw [if_neg (show ¬ ((144 : Int32) ≤ nI i) from nI_ge (b := 144) hi (by decide)), fs_who hh h2 hi]
        simp only [bnd1_s]
        rw [if_neg c, q1]
        simp only [bnd2_s]
        rw [q2]
        simp only [bnd1_s, letv, nI_1]
      · show TM s2 b (if shF σ0 h i = true then _ else _)
        rw [if_pos (by unfold shF; simp [c])]
        exact q3
      · refine (h4.t ⟨fun j hj => ⟨F1.I 49 j (by decide) (by simp), F1.I 50 j (by decide) (by simp)⟩, fun j hj => F1.I 51 j (by decide) (by simp)⟩).t q4
  · rintro z ⟨x, s⟩ ⟨h1, h2, h3, h4⟩
    change x = _ at h1
    subst h1
    refine ⟨s, ?_, h3, h4⟩
    show B_Ma_findWanted_l3 N (nI b) (nI h) _ (nI 144) s = _
    unfold B_Ma_findWanted_l3
    rw [if_pos (by decide)]
theorem ma_sell8 (hN : 1000 < N) (hI : Inv N σ0) (hR : Rdy σ0) (hL : DayL N σ0 W) (hh : h < 24) {σ : Mem} (F : FS σ0 σ) {m : Nat} (hm : m < 256) : ∃ σ', L_Ma_sell_l8 N (nI h) (nI m) N 0 σ = some σ' ∧ FS σ0 σ' ∧ mI σ' 47 9 = mI σ 47 9 ∧ ∀ a, a < 8 → TM σ' a (tl m (shF σ0 h) (wF W σ0 h) a) ∧ mI σ' 52 a = nI 0 := by
  refine loopR (L := fun z (x : Int32 × Mem) => L_Ma_sell_l8 N (nI h) (nI m) z x.1 x.2) (P := fun i x => x.1 = nI i ∧ FS σ0 x.2 ∧ mI x.2 47 9 = mI σ 47 9 ∧ ∀ a, a < i → TM x.2 a (tl m (shF σ0 h) (wF W σ0 h) a) ∧ mI x.2 52 a = nI 0) (a := (0, σ)) 8 ?_ ?_ (by omega) ⟨rfl, F, rfl, fun a ha => absurd ha (Nat.not_lt_zero a)⟩
  · rintro z i ⟨x, s⟩ hi ⟨h1, h2, h3, h4⟩
    change x = _ at h1
    change FS σ0 s at h2
    change mI s 47 9 = _ at h3
    subst h1
    right
    have gi := inb_j hi (show 8 < 2 ^ 31 by decide)
    have G : FS σ0 (sI (sI s 51 i 0) 52 i 0) := (h2.aI rfl (by decide)).aI rfl (by decide)
    have e51 : mI (sI (sI s 51 i 0) 52 i 0) 51 i = nI 0 := by rw [rdI, if_neg (by omega), rdI, if_pos ⟨rfl, rfl⟩]; rfl
    have e52 : mI (sI (sI s 51 i 0) 52 i 0) 52 i = nI 0 := by rw [rdI, if_pos ⟨rfl, rfl⟩]; rfl
    have e47 : mI (sI (sI s 51 i 0) 52 i 0) 47 9 = mI s 47 9 := by rw [rdI, if_neg (by omega), rdI, if_neg (by omega)]
    have O : Oth i s (sI (sI s 51 i 0) 52 i 0) := ⟨fun j _ => ⟨by rw [rdI, if_neg (by omega), rdI, if_neg (by omega)], by rw [rdI, if_neg (by omega), rdI, if_neg (by omega)]⟩, fun j hj => by rw [rdI, if_neg (by omega), rdI, if_neg (by omega)]⟩
    have e52a : ∀ a, a ≠ i → mI (sI (sI s 51 i 0) 52 i 0) 52 a = mI s 52 a := fun a ha => by rw [rdI, if_neg (by omega), rdI, if_neg (by omega)]
    have hB : ∀ s', (if (nI m >>> (nI i &&& 31)) &&& 1 = 1 then (bnd1 (f_Ma_findWanted N (sI (sI s 51 i 0) 52 i 0) (nI i) (nI h)) fun σ46 => some σ46) else some (sI (sI s 51 i 0) 52 i 0)) = some s' → B_Ma_sell_l8 N (nI h) (nI m) (L_Ma_sell_l8 N (nI h) (nI m) z) (nI i) s = L_Ma_sell_l8 N (nI h) (nI m) z (nI (i + 1)) s' := fun s' he => by
      unfold B_Ma_sell_l8
      rw [if_neg (show ¬ ((8 : Int32) ≤ nI i) from nI_ge (b := 8) hi (by decide)), grd_t gi, nI_clamp (by omega)]
      simp only [letv]
      rw [grd_t gi, he]
      simp only [bnd1_s, nI_1]
    by_cases c : m.testBit i = true
    · obtain ⟨s', q1, q2, q3⟩ := ma_find hN hI hR hL hh G hi e51
      have F1 := fm_Ma_findWanted q1
      refine ⟨(nI (i + 1), s'), hB s' (by rw [if_pos ((bit_if hm hi).mpr c), q1]; rfl), rfl, G.c F1 (by decide) (by simp), (F1.I 47 9 (by decide) (by simp)).trans (e47.trans h3), fun a ha => ?_⟩
      by_cases d : a = i
      · subst d
        refine ⟨?_, (F1.I 52 a (by decide) (by simp)).trans e52⟩
        unfold tl; rw [if_pos c]; exact q2
      · have g := h4 a (by omega)
        exact ⟨q3.tm d (O.tm d g.1), (F1.I 52 a (by decide) (by simp)).trans ((e52a a d).trans g.2)⟩
    · refine ⟨(nI (i + 1), sI (sI s 51 i 0) 52 i 0), hB _ (by rw [if_neg (fun z => c ((bit_if hm hi).mp z))]), rfl, G, e47.trans h3, fun a ha => ?_⟩
      by_cases d : a = i
      · subst d
        refine ⟨?_, e52⟩
        unfold tl; rw [if_neg c]
        exact ⟨Nat.zero_le _, e51, fun i hi => absurd hi (Nat.not_lt_zero i)⟩
      · have g := h4 a (by omega)
        exact ⟨O.tm d g.1, (e52a a d).trans g.2⟩
  · rintro z ⟨x, s⟩ ⟨h1, h2, h3, h4⟩
    change x = _ at h1
    subst h1
    refine ⟨s, ?_, h2, h3, h4⟩
    show B_Ma_sell_l8 N (nI h) (nI m) _ (nI 8) s = _
    unfold B_Ma_sell_l8
    rw [if_pos (by decide)]
end SaleC
theorem shl32 : ∀ w, w < 1000 → ((nI w).toInt64) <<< ((32 : Int32).toInt64 &&& 63) = lN (w * 4294967296) := by decide +kernel
theorem shl4 : ∀ c, c < 8 → ∀ i, i < 8 → ((8 - nI c).toInt64) <<< ((4 * (7 - nI i)).toInt64 &&& 63) = lN ((8 - c) * PR (fun _ => 16) (7 - i)) := by decide +kernel
theorem ma_offers {N m p : Nat} {sh : Nat → Bool} {w : Nat → Nat → Nat} {σ : Mem} (hN : 1000 < N) (hp : p < 144) (ht : ∀ a, a < 8 → TM σ a (tl m sh w a)) (h52 : ∀ a, a < 8 → mI σ 52 a = nI (cur (tl m sh w a) p)) : ∃ x : Int32 × Mem, f_Ma_offersFor N σ (nI p) = some x ∧ (((x.1 = 0 ∧ ∀ b, b < 8 → oC m sh w b p = none) ∨ x.1 = 1) ∧ (∀ b, b < 8 → mL x.2 53 b = oL (oC m sh w b p) ∧ mI x.2 52 b = nI (cur (tl m sh w b) (p + 1)))) := by
  refine loopR (L := fun z (x : Int32 × Int32 × Mem) => L_Ma_offersFor_l4 N (nI p) z x.1 x.2.1 x.2.2) (P := fun i x => x.2.1 = nI i ∧ Fr [52, 53] [] σ x.2.2 ∧ ((x.1 = 0 ∧ ∀ b, b < i → oC m sh w b p = none) ∨ x.1 = 1) ∧ (∀ b, b < i → mL x.2.2 53 b = oL (oC m sh w b p) ∧ mI x.2.2 52 b = nI (cur (tl m sh w b) (p + 1))) ∧ ∀ b, i ≤ b → b < 8 → mI x.2.2 52 b = nI (cur (tl m sh w b) p)) (a := (0, 0, σ)) 8 ?_ ?_ (by omega) ⟨rfl, Fr.rf _ _ _, Or.inl ⟨rfl, fun b hb => absurd hb (Nat.not_lt_zero b)⟩, fun b hb => absurd hb (Nat.not_lt_zero b), fun b _ hb => h52 b hb⟩
  · rintro z i ⟨x, y, s⟩ hi ⟨h1, h2, h3, h4, h5⟩
    change y = _ at h1
    change Fr _ _ σ s at h2
    subst h1
    right
    obtain ⟨t1, t2, t3⟩ := ht i hi
    have hdef : oC m sh w i p = if cur (tl m sh w i) p < (tl m sh w i).2.2 ∧ (tl m sh w i).1 (cur (tl m sh w i) p) = p then some (w i p * 4294967296 + (8 - cur (tl m sh w i) p) * PR (fun _ => 16) (7 - i)) else none := rfl
    have hcur : cur (tl m sh w i) (p + 1) = if cur (tl m sh w i) p < (tl m sh w i).2.2 ∧ (tl m sh w i).1 (cur (tl m sh w i) p) = p then cur (tl m sh w i) p + 1 else cur (tl m sh w i) p := rfl
    have hle := (cur_ok (tl_ok (m := m) (sh := sh) (w := w) (b := i)).2 p).1
    have e5 : mI s 52 i = _ := h5 i (Nat.le_refl i) hi
    have gi := inb_j hi (show 8 < 2 ^ 31 by decide)
    have e51 : mI (sL s 53 i (-1)) 51 i = nI (tl m sh w i).2.2 := (h2.I 51 i (by decide) (by simp)).trans t2
    generalize hc : cur (tl m sh w i) p = c at hdef hcur hle e5
    have e49 : c < (tl m sh w i).2.2 → mI (sL s 53 i (-1)) 49 (i * 8 + c) = nI ((tl m sh w i).1 c) := fun q => (h2.I 49 _ (by decide) (by simp)).trans (t3 c q).2.2.1
    have e50 : c < (tl m sh w i).2.2 → mI (sL s 53 i (-1)) 50 (i * 8 + c) = nI ((tl m sh w i).2.1 c) := fun q => (h2.I 50 _ (by decide) (by simp)).trans (t3 c q).2.2.2
    have hrest : ∀ s', Fr [52, 53] [] s s' → (∀ b, b ≠ i → mL s' 53 b = mL s 53 b ∧ mI s' 52 b = mI s 52 b) → mL s' 53 i = oL (oC m sh w i p) → mI s' 52 i = nI (cur (tl m sh w i) (p + 1)) → Fr [52, 53] [] σ s' ∧ (∀ b, b < i + 1 → mL s' 53 b = oL (oC m sh w b p) ∧ mI s' 52 b = nI (cur (tl m sh w b) (p + 1))) ∧ ∀ b, i + 1 ≤ b → b < 8 → mI s' 52 b = nI (cur (tl m sh w b) p) := fun s' g1 g2 g3 g4 => by
      refine ⟨h2.t g1, fun b hb => ?_, fun b hb hb8 => ?_⟩
      · by_cases d : b = i
        · subst d; exact ⟨g3, g4⟩
        · have := h4 b (by omega)
          exact ⟨(g2 b d).1.trans this.1, (g2 b d).2.trans this.2⟩
      · exact (g2 b (by omega)).2.trans (h5 b (by omega) hb8)
    have hB : ∀ (a : Int32) (s' : Mem), (if mI (sL s 53 i (-1)) 51 i ≤ nI c then some (x, sL s 53 i (-1)) else (grd (inb ((nI i * 8) + nI c) 64) <| if mI (sL s 53 i (-1)) 49 (((nI i * 8) + nI c).toNatClampNeg) = nI p then (grd (inb ((nI i * 8) + nI c) 64) <| grd (inb (nI i) 8) <| letv (sL (sL s 53 i (-1)) 53 i ((((mI (sL s 53 i (-1)) 50 (((nI i * 8) + nI c).toNatClampNeg)).toInt64) <<< ((32 : Int32).toInt64 &&& 63)) + (((8 - nI c).toInt64) <<< ((4 * (7 - nI i)).toInt64 &&& 63)))) fun σ89 => grd (inb (nI i) 8) <| grd (inb (nI i) 8) <| letv (sI σ89 52 i ((mI σ89 52 i) + 1)) fun σ99 => some (1, σ99)) else some (x, sL s 53 i (-1)))) = some (a, s') → L_Ma_offersFor_l4 N (nI p) (z + 1) x (nI i) s = L_Ma_offersFor_l4 N (nI p) z a (nI (i + 1)) s' := fun a s' he => by
      show B_Ma_offersFor_l4 N (nI p) (L_Ma_offersFor_l4 N (nI p) z) x (nI i) s = _
      unfold B_Ma_offersFor_l4
      rw [if_neg (show ¬ ((8 : Int32) ≤ nI i) from nI_ge (b := 8) hi (by decide)), grd_t gi, nI_clamp (by omega), e5]
      simp only [letv] at he ⊢
      rw [grd_t gi, grd_t gi, he]
      simp only [bnd1_s, q2, nI_1]
    have hnone : ¬ (c < (tl m sh w i).2.2 ∧ (tl m sh w i).1 c = p) → ∃ a' : Int32 × Int32 × Mem, L_Ma_offersFor_l4 N (nI p) (z + 1) x (nI i) s = L_Ma_offersFor_l4 N (nI p) z a'.1 a'.2.1 a'.2.2 ∧ a'.2.1 = nI (i + 1) ∧ Fr [52, 53] [] σ a'.2.2 ∧ ((a'.1 = 0 ∧ ∀ b, b < i + 1 → oC m sh w b p = none) ∨ a'.1 = 1) ∧ (∀ b, b < i + 1 → mL a'.2.2 53 b = oL (oC m sh w b p) ∧ mI a'.2.2 52 b = nI (cur (tl m sh w b) (p + 1))) ∧ ∀ b, i + 1 ≤ b → b < 8 → mI a'.2.2 52 b = nI (cur (tl m sh w b) p) := fun hn => by
      rw [if_neg hn] at hdef hcur
      have hr := hrest (sL s 53 i (-1)) ((Fr.rf _ _ _).aL rfl (by decide)) (fun b hb => ⟨by rw [rdL, if_neg (fun z => hb z.2)], rfl⟩) (by rw [rdL, if_pos ⟨rfl, rfl⟩, hdef]; rfl) (by rw [hcur]; exact e5)
      refine ⟨(x, nI (i + 1), sL s 53 i (-1)), hB x _ ?_, rfl, hr.1, ?_, hr.2⟩
      · rw [e51]
        by_cases d : c < (tl m sh w i).2.2
        · have hne : (tl m sh w i).1 c ≠ p := fun z => hn ⟨d, z⟩
          have l144 := (t3 c d).1
          rw [if_neg (nI_ge d (by omega)), show nI i * 8 = nI (i * 8) from pk_mul i 8, nI_add, grd_t (inb_j (show i * 8 + c < 64 by omega) (by decide)), nI_clamp (by omega), e49 d, if_neg (fun z => hne ((nI_eq (by omega) (by omega)).mp z))]
        · rw [if_pos (nI_le (by omega) (by omega))]
      · rcases h3 with ⟨g1, g2⟩ | g1
        · refine Or.inl ⟨g1, fun b hb => ?_⟩
          by_cases d : b = i
          · subst d; exact hdef
          · exact g2 b (by omega)
        · exact Or.inr g1
    by_cases d : c < (tl m sh w i).2.2 ∧ (tl m sh w i).1 c = p
    · rw [if_pos d] at hdef hcur
      obtain ⟨-, -, -, a, a1, a2, a3, a4, a5⟩ := oC_some hdef
      rw [hc] at a4
      subst a4
      have l999 := (t3 c d.1).2.1
      rw [a5] at l999
      have hv := shl32 (w i p) (by omega)
      have hv2 := shl4 c a2 i hi
      have hr := hrest (sI (sL (sL s 53 i (-1)) 53 i (lN (w i p * 4294967296 + (8 - c) * PR (fun _ => 16) (7 - i)))) 52 i (nI (c + 1))) ((((Fr.rf _ _ _).aL rfl (by decide)).aL rfl (by decide)).aI rfl (by decide)) (fun b hb => ⟨by rw [mL_sI, rdL, if_neg (fun z => hb z.2), rdL, if_neg (fun z => hb z.2)], by rw [rdI, if_neg (fun z => hb z.2)]; rfl⟩) (by rw [mL_sI, rdL, if_pos ⟨rfl, rfl⟩, hdef]; rfl) (by rw [rdI, if_pos ⟨rfl, rfl⟩, hcur])
      refine ⟨(1, nI (i + 1), _), hB 1 _ ?_, rfl, hr.1, Or.inr rfl, hr.2⟩
      rw [e51, if_neg (nI_ge d.1 (by omega)), show nI i * 8 = nI (i * 8) from pk_mul i 8, nI_add, grd_t (inb_j (show i * 8 + c < 64 by omega) (by decide)), nI_clamp (by omega), e49 d.1, if_pos (by rw [d.2]), grd_t (inb_j (show i * 8 + c < 64 by omega) (by decide)), grd_t gi, e50 d.1, a5, hv, hv2, lN_add]
      simp only [letv]
      rw [grd_t gi, grd_t gi, mI_sL, mI_sL, e5, nI_1]
      rfl
    · exact hnone d
  · rintro z ⟨x, y, s⟩ ⟨h1, h2, h3, h4, h5⟩
    change y = _ at h1
    subst h1
    refine ⟨(x, s), ?_, h3, h4⟩
    show B_Ma_offersFor_l4 N (nI p) _ x (nI 8) s = _
    unfold B_Ma_offersFor_l4
    rw [if_pos (by decide)]
    rcases h3 with ⟨g1, -⟩ | g1
    · change x = 0 at g1; subst g1; rfl
    · change x = 1 at g1; subst g1; rfl
