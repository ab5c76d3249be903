-- part qq: what the class reads off its best sale
theorem cls_wanted {m S a b : Nat} {sh : Nat → Bool} {w : Nat → Nat → Nat} {r : Nat → Nat} {σ : Mem} (hb : b < 8) (ha : a ≤ 7992) (hr : Row (oC m sh w) 144 S r) (e : mL σ 47 10 = lN (a * 4294967296 + HR (fun _ => 16) (dK m sh w S r) 8)) : f_Ma_wantedBy σ (nI b) = some (if S.testBit b = true then nI (b * 8 + cur (tl m sh w b) (r b)) else -1) := by
  unfold f_Ma_wantedBy f_Ma_isNumber
  rw [if_neg (nI_pos (by omega)), if_neg (show ¬ ((8 : Int32) ≤ nI b) from nI_ge (b := 8) hb (by decide))]
  simp only [bnd1_s, if_neg ne10, letv]
  rw [e, cls_dig hb ha]
  unfold dK
  by_cases c : S.testBit b = true
  · obtain ⟨-, y, hy⟩ := hr.1 b hb c
    obtain ⟨-, -, -, i, i1, i2, i3, i4, i5⟩ := oC_some hy
    rw [if_pos c, if_pos c, i4, if_neg (show ¬ nI (8 - i) < 1 from fun z => absurd ((nI_ltI (b := 1) (by omega) (by decide)).mp z) (by omega)), if_neg (show ¬ (8 : Int32) < nI (8 - i) from fun z => absurd ((nI_ltI (a := 8) (by decide) (by omega)).mp z) (by omega)), show nI b * 8 = nI (b * 8) from pk_mul b 8, show nI (b * 8) + 8 = nI (b * 8 + 8) from nI_add _ 8, pk_sub (by omega), show b * 8 + 8 - (8 - i) = b * 8 + i by omega]
  · rw [if_neg c, if_neg c, if_pos (by decide)]
theorem cls_square {m S a b : Nat} {sh : Nat → Bool} {w : Nat → Nat → Nat} {r : Nat → Nat} {σ : Mem} (hb : b < 8) (hbm : m.testBit b = true) (ha : a ≤ 7992) (hr : Row (oC m sh w) 144 S r) (e : mL σ 47 10 = lN (a * 4294967296 + HR (fun _ => 16) (dK m sh w S r) 8)) (ht : TM σ b (tl m sh w b)) : f_Ma_squareOf σ (nI b) = some (nI (rr m S r b)) ∧ ∀ N, 1000 < N → ∀ v v', v < 4294967296 → v' < 4294967296 → ∀ (a' : Nat), a' ≤ 7992 → mL σ 47 10 = lN (a * 4294967296 + v) → f_Ma_bestOf N σ ((mI σ 47 9) &&& ((1 <<< (nI b &&& 31)) ^^^ (-1))) = some (lN (a' * 4294967296 + v')) → f_Ma_pays N σ (nI b) = some (nI a' - (nI a - (if S.testBit b = true then nI (w b (r b)) else 0))) := by
  have hw := cls_wanted hb ha hr e
  have hpick : S.testBit b = true → (b * 8 + cur (tl m sh w b) (r b) < 64 ∧ mI σ 49 (b * 8 + cur (tl m sh w b) (r b)) = nI (r b) ∧ mI σ 50 (b * 8 + cur (tl m sh w b) (r b)) = nI (w b (r b))) := fun c => by
    obtain ⟨-, y, hy⟩ := hr.1 b hb c
    obtain ⟨-, -, -, i, i1, i2, i3, i4, i5⟩ := oC_some hy
    obtain ⟨t1, t2, t3, t4⟩ := ht.2.2 i i1
    rw [i4, t3, t4, i3, i5]
    exact ⟨by omega, rfl, rfl⟩
  constructor
  · unfold f_Ma_squareOf rr
    rw [hw, if_pos hbm]
    simp only [bnd1_s]
    by_cases c : S.testBit b = true
    · obtain ⟨p1, p2, -⟩ := hpick c
      rw [if_pos c, if_pos c, if_neg (nIm1 (by omega)), grd_t (inb_j p1 (by decide)), nI_clamp (by omega), p2]
    · rw [if_neg c, if_neg c, if_pos rfl]; rfl
  · intro N hN v v' hv hv' a' ha' e1 e2
    unfold f_Ma_pays f_Ma_together
    rw [hw, e2, e1, cls_sum hv ha]
    by_cases c : S.testBit b = true
    · obtain ⟨p1, -, p3⟩ := hpick c
      simp only [if_pos c, bnd1_s, if_neg (nIm1 (show b * 8 + cur (tl m sh w b) (r b) < 2 ^ 31 by omega)), grd_t (inb_j p1 (show 64 < 2 ^ 31 by decide)), nI_clamp (show b * 8 + cur (tl m sh w b) (r b) < 2 ^ 31 by omega), p3, letv]
      rw [cls_sum hv' ha']
    · simp only [if_neg c, if_true, bnd1_s, letv]
      rw [cls_sum hv' ha']
theorem ask_cases (a : Int32) : a = -1 ∨ (∃ b : Nat, b < 8 ∧ a = nI b) ∨ (∃ b : Nat, b < 8 ∧ a = nI (10 + b)) ∨ (a ≠ -1 ∧ f_Mo_in a 0 7 = some 0 ∧ f_Mo_in a 10 17 = some 0 ∧ ((a < 10 ∧ f_Ma_isNumber a = some 0) ∨ (¬ a < 10 ∧ f_Ma_isNumber (a - 10) = some 0))) := by
  by_cases h0 : a < 0
  · by_cases h1 : a = -1
    · exact Or.inl h1
    · have h10 : a < 10 := Int32.lt_trans h0 (by decide)
      refine Or.inr (Or.inr (Or.inr ⟨h1, ?_, ?_, Or.inl ⟨h10, ?_⟩⟩))
      · unfold f_Mo_in; rw [if_pos h0]
      · unfold f_Mo_in; rw [if_pos h10]
      · unfold f_Ma_isNumber; rw [if_pos h0]
  · obtain ⟨k, hk, rfl⟩ := nI_of h0
    have hn1 : nI k ≠ -1 := nIm1 hk
    by_cases c1 : k < 8
    · exact Or.inr (Or.inl ⟨k, c1, rfl⟩)
    · by_cases c2 : 10 ≤ k ∧ k < 18
      · exact Or.inr (Or.inr (Or.inl ⟨k - 10, by omega, by rw [show 10 + (k - 10) = k by omega]⟩))
      · refine Or.inr (Or.inr (Or.inr ⟨hn1, ?_, ?_, ?_⟩))
        · unfold f_Mo_in; rw [if_neg h0, if_pos (show (7 : Int32) < nI k from nI_lt (a := 7) (by omega) hk)]
        · unfold f_Mo_in
          by_cases d : k < 10
          · rw [if_pos (show nI k < 10 from nI_lt (b := 10) d (by decide))]
          · rw [if_neg (show ¬ nI k < 10 from fun z => d ((nI_ltI (b := 10) hk (by decide)).mp z)), if_pos (show (17 : Int32) < nI k from nI_lt (a := 17) (by omega) hk)]
        · by_cases d : k < 10
          · refine Or.inl ⟨nI_lt (b := 10) d (by decide), ?_⟩
            unfold f_Ma_isNumber
            rw [if_neg h0, if_pos (show (8 : Int32) ≤ nI k from nI_le (a := 8) (by omega) hk)]
          · refine Or.inr ⟨fun z => d ((nI_ltI (b := 10) hk (by decide)).mp z), ?_⟩
            rw [show nI k - 10 = nI (k - 10) from pk_sub (b := 10) (by omega)]
            unfold f_Ma_isNumber
            rw [if_neg (nI_pos (by omega)), if_pos (show (8 : Int32) ≤ nI (k - 10) from nI_le (a := 8) (by omega) (by omega))]
