-- part ll: the class's sale as a whole
theorem ja_fillL {N : Nat} {σ : Mem} {g n : Nat} (v : Int64) (hn : n < N) (hn2 : n < 2 ^ 30) : ∃ σ', f_JA_fill_d0a16 N σ g n v = some σ' ∧ Fr [g] [] σ σ' ∧ ∀ j, j < n → mL σ' g j = v := by
  unfold f_JA_fill_d0a16
  simp only [letv]
  refine loopR (L := fun k (a : Int32 × Mem) => L_JA_fill_d0a16_l6 N g n v (Int32.ofNat n) k a.1 a.2) (P := fun i a => a.1 = nI i ∧ Fr [g] [] σ a.2 ∧ ∀ j, j < i → mL a.2 g j = v) (a := (0, σ)) n ?_ ?_ hn ⟨rfl, Fr.rf _ _ _, fun j hj => absurd hj (Nat.not_lt_zero j)⟩
  · rintro k i ⟨x, s⟩ hi ⟨h1, h2, h3⟩
    change x = _ at h1
    subst h1
    refine Or.inr ⟨(nI (i + 1), sL s g i v), ?_, rfl, h2.aL rfl (by simp), fun j hj => ?_⟩
    · show B_JA_fill_d0a16_l6 N g n v (Int32.ofNat n) (L_JA_fill_d0a16_l6 N g n v (Int32.ofNat n) k) (nI i) s = _
      unfold B_JA_fill_d0a16_l6
      rw [if_neg (show ¬ (Int32.ofNat n ≤ nI i) from nI_ge hi (by omega)), grd_t (inb_j hi (by omega)), nI_clamp (by omega)]
      simp only [letv]
      rw [nI_1]
    · show mL (sL s g i v) g j = _
      rw [rdL]
      by_cases e : j = i
      · rw [if_pos ⟨rfl, e⟩]
      · rw [if_neg (fun z => e z.2)]; exact h3 j (by omega)
  · rintro k ⟨x, s⟩ ⟨h1, h2, h3⟩
    change x = _ at h1
    subst h1
    refine ⟨s, ?_, h2, h3⟩
    show B_JA_fill_d0a16_l6 N g n v (Int32.ofNat n) (L_JA_fill_d0a16_l6 N g n v (Int32.ofNat n) k) (nI n) s = _
    unfold B_JA_fill_d0a16_l6
    rw [if_pos (show Int32.ofNat n ≤ nI n from nI_le (Nat.le_refl n) (by omega))]
def BV (T : Nat → Option Nat) (m v : Nat) : Prop := (∃ S, S < 256 ∧ sbs S m ∧ T S = some v) ∧ ∀ S x, S < 256 → sbs S m → T S = some x → x ≤ v
theorem ma_best {N : Nat} {σ : Mem} {T : Nat → Option Nat} {m : Nat} (hN : 1000 < N) (hT : ∀ S x, T S = some x → x < 2 ^ 61) (hT0 : T 0 = some 0) (h54 : ∀ S, S < 256 → sbs S m → mL σ 54 S = oL (T S)) : ∃ v, v < 2 ^ 61 ∧ f_Ma_bestOf N σ (nI m) = some (lN v) ∧ BV T m v := by
  have hl : ∃ r, L_Ma_bestOf_l5 N (nI m) σ N 0 0 = some r ∧ ∃ v, v < 2 ^ 61 ∧ r = lN v ∧ BV T m v := by
    refine loopR (L := fun z (x : Int64 × Int32) => L_Ma_bestOf_l5 N (nI m) σ z x.1 x.2) (P := fun i x => x.2 = nI i ∧ ∃ v, v < 2 ^ 61 ∧ x.1 = lN v ∧ (∀ S x, S < i → sbs S m → T S = some x → x ≤ v) ∧ (v = 0 ∨ ∃ S, S < i ∧ sbs S m ∧ T S = some v)) (a := (0, 0)) 256 ?_ ?_ (by omega) ⟨rfl, 0, by decide, rfl, fun S x h => absurd h (Nat.not_lt_zero S), Or.inl rfl⟩
    · rintro z i ⟨y, x⟩ hi ⟨h1, v, h2, h3, h4, h5⟩
      change x = _ at h1
      change y = _ at h3
      subst h1
      subst h3
      right
      by_cases c : sbs i m
      · refine ⟨(lN (max v ((T i).getD 0)), nI (i + 1)), ?_, rfl, max v ((T i).getD 0), ?_, rfl, fun S x g1 g2 g3 => ?_, ?_⟩
        · show B_Ma_bestOf_l5 N (nI m) σ (L_Ma_bestOf_l5 N (nI m) σ z) (lN v) (nI i) = _
          unfold B_Ma_bestOf_l5
          rw [if_neg (show ¬ ((255 : Int32) < nI i) from fun q => absurd ((nI_ltI (a := 255) (by decide) (by omega)).mp q) (by omega)), if_pos ((andn0 (by omega)).mpr c), grd_t (inb_j hi (by decide)), nI_clamp (by omega), h54 i hi c, jm_maxL2 (fun x hx => by have := hT i x hx; omega) (by omega)]
          simp only [bnd1_s, letv, nI_1]
        · cases e : T i with
          | none => show max v 0 < _; omega
          | some x => have := hT i x e; show max v x < _; omega
        · by_cases d : S = i
          · subst d; rw [g3]; exact Nat.le_max_right _ _
          · exact Nat.le_trans (h4 S x (by omega) g2 g3) (Nat.le_max_left _ _)
        · by_cases d : (T i).getD 0 ≤ v
          · rw [Nat.max_eq_left d]
            rcases h5 with q | ⟨S, q1, q2⟩
            · exact Or.inl q
            · exact Or.inr ⟨S, by omega, q2⟩
          · rw [Nat.max_eq_right (by omega)]
            cases e : T i with
            | none => rw [e] at d; exact absurd (Nat.zero_le v) d
            | some x => exact Or.inr ⟨i, by omega, c, e⟩
      · refine ⟨(lN v, nI (i + 1)), ?_, rfl, v, h2, rfl, fun S x g1 g2 g3 => ?_, ?_⟩
        · show B_Ma_bestOf_l5 N (nI m) σ (L_Ma_bestOf_l5 N (nI m) σ z) (lN v) (nI i) = _
          unfold B_Ma_bestOf_l5
          rw [if_neg (show ¬ ((255 : Int32) < nI i) from fun q => absurd ((nI_ltI (a := 255) (by decide) (by omega)).mp q) (by omega)), if_neg (fun q => c ((andn0 (by omega)).mp q))]
          simp only [bnd1_s, letv, nI_1]
        · by_cases d : S = i
          · subst d; exact absurd g2 c
          · exact h4 S x (by omega) g2 g3
        · rcases h5 with q | ⟨S, q1, q2⟩
          · exact Or.inl q
          · exact Or.inr ⟨S, by omega, q2⟩
    · rintro z ⟨y, x⟩ ⟨h1, v, h2, h3, h4, h5⟩
      change x = _ at h1
      change y = _ at h3
      subst h1
      subst h3
      refine ⟨lN v, ?_, v, h2, rfl, ?_, h4⟩
      · show B_Ma_bestOf_l5 N (nI m) σ _ (lN v) (nI 256) = _
        unfold B_Ma_bestOf_l5
        rw [if_pos (by decide)]
      · rcases h5 with q | ⟨S, q1, q2, q3⟩
        · exact ⟨0, by decide, fun j hj => (by rw [Nat.zero_testBit] at hj; cases hj), by rw [hT0, q]⟩
        · exact ⟨S, q1, q2, q3⟩
  obtain ⟨r, r1, v, r2, r3, r4⟩ := hl
  exact ⟨v, r2, by rw [← r3]; exact r1, r4⟩
theorem vl_le {w : Nat → Nat → Nat} (hw : ∀ b q, w b q ≤ 999) (S : Nat) (r : Nat → Nat) : vl w S r ≤ 7992 := by
  unfold vl
  exact sumN_le (B := 999) 8 (fun i _ => by split; · exact hw i (r i)
                                            · omega)
theorem oC_lt {m : Nat} {sh : Nat → Bool} {w : Nat → Nat → Nat} (hw : ∀ b q, w b q ≤ 999) {b q y : Nat} (h : oC m sh w b q = some y) : y < 2 ^ 61 := by
  unfold oC at h
  by_cases c : cur (tl m sh w b) q < (tl m sh w b).2.2 ∧ (tl m sh w b).1 (cur (tl m sh w b) q) = q
  · rw [if_pos c] at h
    have e := Option.some.inj h
    have h1 := PR_le (R := fun _ => 16) (B := 16) (fun i _ => Nat.le_refl 16) (7 - b) (by omega)
    have h2 : 16 ^ (7 - b) ≤ 16 ^ 7 := Nat.pow_le_pow_right (by decide) (by omega)
    rw [show (16 : Nat) ^ 7 = 268435456 by decide] at h2
    have h3 : (8 - cur (tl m sh w b) q) * PR (fun _ => 16) (7 - b) ≤ 8 * 268435456 := Nat.mul_le_mul (by omega) (by omega)
    have h4 := hw b q
    omega
  · rw [if_neg c] at h; cases h
theorem DDC_lt {m p : Nat} {sh : Nat → Bool} {w : Nat → Nat → Nat} (hw : ∀ b q, w b q ≤ 999) : ∀ S x, DD (oC m sh w) p S = some x → x < 2 ^ 61 := fun S x h => by
  obtain ⟨r, h1, h2⟩ := DD_att p S x h
  rw [tot_oC h1] at h2
  have a := vl_le hw S r
  have b := HRK_lt (m := m) (sh := sh) (w := w) (S := S) (r := r)
  omega
theorem DB_none {o : Nat → Nat → Option Nat} {T : Nat → Option Nat} {p S : Nat} (h : ∀ b, b < 8 → o b p = none) : ∀ n, n ≤ 8 → DB o T p S n = T S := by
  intro n
  induction n with
  | zero => intro _; rfl
  | succ n ih =>
    intro hn
    show omx (DB o T p S n) (if S.testBit n = true then oad (T (rmv S n)) (o n p) else none) = _
    rw [ih (by omega), h n (by omega)]
    have : (if S.testBit n = true then oad (T (rmv S n)) none else none) = none := by
      split
      · cases T (rmv S n) <;> rfl
      · rfl
    rw [this]
    cases T S <;> rfl
theorem DD_zero (o : Nat → Nat → Option Nat) : ∀ p, DD o p 0 = some 0 := by
  intro p
  induction p with
  | zero => rfl
  | succ p ih => show DB o (DD o p) p 0 8 = _; rw [DB_zero, ih]
section SaleD
variable {N : Nat} {σ0 : Mem} {W : LW} {h : Nat}
theorem ma_sell75 {m : Nat} {sh : Nat → Bool} {w : Nat → Nat → Nat} {σ : Mem} (hN : 1000 < N) (hm : m < 256) (hw : ∀ b q, w b q ≤ 999) (e9 : mI σ 47 9 = nI m) (ht : ∀ a, a < 8 → TM σ a (tl m sh w a)) (h52 : ∀ a, a < 8 → mI σ 52 a = nI 0) (h54 : ∀ S, S < 256 → sbs S m → mL σ 54 S = oL (DD (oC m sh w) 0 S)) : ∃ σ', L_Ma_sell_l75 N (nI m) N 0 σ = some σ' ∧ (∃ v, v < 2 ^ 61 ∧ mL σ' 47 10 = lN v ∧ BV (DD (oC m sh w) 144) m v) ∧ mI σ' 47 9 = nI m ∧ (∀ a, a < 8 → TM σ' a (tl m sh w a)) ∧ ∀ S, S < 256 → sbs S m → mL σ' 54 S = oL (DD (oC m sh w) 144 S) := by
  refine loopR (L := fun z (x : Int32 × Mem) => L_Ma_sell_l75 N (nI m) z x.1 x.2) (P := fun p x => x.1 = nI p ∧ Fr [52, 53, 54] [] σ x.2 ∧ (∀ a, a < 8 → mI x.2 52 a = nI (cur (tl m sh w a) p)) ∧ ∀ S, S < 256 → sbs S m → mL x.2 54 S = oL (DD (oC m sh w) p S)) (a := (0, σ)) 144 ?_ ?_ (by omega) ⟨rfl, Fr.rf _ _ _, h52, h54⟩
  · rintro z p ⟨x, s⟩ hp ⟨h1, h2, h3, h4⟩
    change x = _ at h1
    change Fr _ _ σ s at h2
    subst h1
    right
    have tk : ∀ {s' : Mem}, Fr [52, 53, 54] [] σ s' → ∀ a, a < 8 → TM s' a (tl m sh w a) := fun F a ha => (ht a ha).k (F.rowI 49 (by decide) (by simp)) (F.rowI 50 (by decide) (by simp)) (F.rowI 51 (by decide) (by simp))
    obtain ⟨⟨r, s1⟩, q1, q2, q3⟩ := ma_offers (N := N) hN hp (tk h2) h3
    have F1 := fm_Ma_offersFor q1
    have G1 : Fr [52, 53, 54] [] σ s1 := h2.c F1 (by decide) (by simp)
    have t1 : ∀ S, S < 256 → sbs S m → mL s1 54 S = oL (DD (oC m sh w) p S) := fun S g1 g2 => (F1.L 54 S (by decide) (by simp)).trans (h4 S g1 g2)
    by_cases c : r = 0
    · have hnone : ∀ b, b < 8 → oC m sh w b p = none := by
        rcases q2 with ⟨-, q⟩ | q
        · exact q
        · change r = 1 at q; rw [c] at q; exact absurd q (by decide)
      refine ⟨(nI (p + 1), s1), ?_, rfl, G1, fun a ha => (q3 a ha).2, fun S g1 g2 => ?_⟩
      · show B_Ma_sell_l75 N (nI m) (L_Ma_sell_l75 N (nI m) z) (nI p) s = _
        unfold B_Ma_sell_l75
        rw [if_neg (show ¬ ((144 : Int32) ≤ nI p) from nI_ge (b := 144) hp (by decide)), q1]
        simp only [bnd2_s]
        rw [if_pos c]
        simp only [bnd1_s, letv, nI_1]
      · show mL s1 54 S = oL (DB (oC m sh w) (DD (oC m sh w) p) p S 8)
        rw [DB_none hnone 8 (Nat.le_refl 8)]
        exact t1 S g1 g2
    · obtain ⟨s2, p1, p2⟩ := ma_take (N := N) (σ := s1) (o := oC m sh w) (T := DD (oC m sh w) p) (p := p) (m := m) hN hm ((G1.I 47 9 (by decide) (by simp)).trans e9) (DDC_lt hw) (fun b y hy => oC_lt hw hy) (fun b hb => (q3 b hb).1) t1
      have F2 := fm_Ma_takeOffers p1
      refine ⟨(nI (p + 1), s2), ?_, rfl, G1.c F2 (by decide) (by simp), fun a ha => (F2.I 52 a (by decide) (by simp)).trans (q3 a ha).2, p2⟩
      show B_Ma_sell_l75 N (nI m) (L_Ma_sell_l75 N (nI m) z) (nI p) s = _
      unfold B_Ma_sell_l75
      rw [if_neg (show ¬ ((144 : Int32) ≤ nI p) from nI_ge (b := 144) hp (by decide)), q1]
      simp only [bnd2_s]
      rw [if_neg c, p1]
      simp only [bnd1_s, letv, nI_1]
  · rintro z ⟨x, s⟩ ⟨h1, h2, h3, h4⟩
    change x = _ at h1
    change Fr _ _ σ s at h2
    subst h1
    obtain ⟨v, v1, v2, v3⟩ := ma_best (N := N) (σ := s) (m := m) hN (DDC_lt hw) (DD_zero (oC m sh w) 144) h4
    refine ⟨sL s 47 10 (lN v), ?_, ⟨v, v1, by rw [rdL, if_pos ⟨rfl, rfl⟩], v3⟩, (h2.I 47 9 (by decide) (by simp)).trans e9, fun a ha => ?_, fun S g1 g2 => ?_⟩
    · show B_Ma_sell_l75 N (nI m) _ (nI 144) s = _
      unfold B_Ma_sell_l75
      rw [if_pos (by decide), v2]
      rfl
    · exact (ht a ha).k (h2.rowI 49 (by decide) (by simp)) (h2.rowI 50 (by decide) (by simp)) (h2.rowI 51 (by decide) (by simp))
    · rw [rdL, if_neg (by omega)]; exact h4 S g1 g2
theorem ma_sell (hN : 1000 < N) (hI : Inv N σ0) (hR : Rdy σ0) (hL : DayL N σ0 W) (hh : h < 24) {m : Nat} (hm : m < 256) : ∃ σ', f_Ma_sell N σ0 (nI h) (nI m) = some σ' ∧ (∃ v, v < 2 ^ 61 ∧ mL σ' 47 10 = lN v ∧ BV (DD (oC m (shF σ0 h) (wF W σ0 h)) 144) m v) ∧ mI σ' 47 9 = nI m ∧ (∀ a, a < 8 → TM σ' a (tl m (shF σ0 h) (wF W σ0 h) a)) ∧ ∀ S, S < 256 → sbs S m → mL σ' 54 S = oL (DD (oC m (shF σ0 h) (wF W σ0 h)) 144 S) := by
  have F0 : FS σ0 (sI σ0 47 9 (nI m)) := (Fr.rf _ _ _).fI rfl (by decide)
  obtain ⟨s1, p1, p2, p3, p4⟩ := ma_sell8 hN hI hR hL hh F0 hm
  obtain ⟨s2, r1, r2, r3⟩ := ja_fillL (N := N) (σ := s1) (g := 54) (n := 256) (-1) (by omega) (by decide)
  have e9 : mI s1 47 9 = nI m := p3.trans (by rw [rdI, if_pos ⟨rfl, rfl⟩])
  obtain ⟨s3, x1, x2⟩ := ma_sell75 (N := N) (σ := sL s2 54 0 0) (m := m) (sh := shF σ0 h) (w := wF W σ0 h) hN hm (fun b q => (wF_ok W σ0 h b q).1) ((r2.I 47 9 (by decide) (by simp)).trans e9) (fun a ha => (p4 a ha).1.k (r2.rowI 49 (by decide) (by simp)) (r2.rowI 50 (by decide) (by simp)) (r2.rowI 51 (by decide) (by simp))) (fun a ha => (r2.I 52 a (by decide) (by simp)).trans (p4 a ha).2) (fun S g1 _ => by
    rw [rdL]
    by_cases c : S = 0
    · subst c; rw [if_pos ⟨rfl, rfl⟩]; rfl
    · rw [if_neg (fun z => c z.2), r3 S g1]
      show _ = oL (if S = 0 then some 0 else none)
      rw [if_neg c]; rfl)
  refine ⟨s3, ?_, x2⟩
  unfold f_Ma_sell
  simp only [letv]
  rw [p1]
  simp only [bnd1_s]
  rw [r1]
  simp only [bnd1_s]
  exact x1
end SaleD
