-- ===== noon by turns =====
/-- who of the first m that wait had fewest, the lowest of like ones -/
def fwS (t : Nat → Nat) (w : Nat → Bool) : Nat → Option Nat
  | 0 => none
  | i + 1 => if w i && (match fwS t w i with
      | none => true
      | some b => decide (t i < t b)) then some i else fwS t w i
theorem fwS_succ (t : Nat → Nat) (w : Nat → Bool) (i : Nat) : fwS t w (i + 1) = if w i && (match fwS t w i with
      | none => true
      | some b => decide (t i < t b)) then some i else fwS t w i := rfl
theorem fwS_ok (t : Nat → Nat) (w : Nat → Bool) : ∀ i b, fwS t w i = some b → b < i ∧ w b = true := by
  intro i
  induction i with
  | zero => intro b h; cases h
  | succ i ih =>
    intro b h
    rw [fwS_succ] at h
    by_cases c : (w i && (match fwS t w i with
      | none => true
      | some b => decide (t i < t b))) = true
    · rw [if_pos c] at h
      cases h
      simp only [Bool.and_eq_true] at c
      exact ⟨by omega, c.1⟩
    · rw [if_neg c] at h
      obtain ⟨h1, h2⟩ := ih b h
      exact ⟨by omega, h2⟩
theorem fwS_congr {t t' : Nat → Nat} {w : Nat → Bool} (he : ∀ i, w i = true → t i = t' i) : ∀ i, fwS t w i = fwS t' w i := by
  intro i
  induction i with
  | zero => rfl
  | succ i ih =>
    rw [fwS_succ, fwS_succ, ← ih]
    cases hw : w i with
    | false => rfl
    | true =>
      cases hf : fwS t w i with
      | none => rfl
      | some b =>
        have hb := (fwS_ok t w i b hf).2
        simp only [he i hw, he b hb]
def fwI : Option Nat → Int32
  | none => -1
  | some b => nI b
/-- told ones that wait -/
def wtB (tb g : Nat) (i : Nat) : Bool := tb.testBit i && !g.testBit i
def bitN (g i : Nat) : Nat := if g.testBit i then 1 else 0
/-- who has got a place after k places of a day -/
def gvS (t : Nat → Nat) (tb : Nat) : Nat → Nat
  | 0 => 0
  | k + 1 => match fwS t (wtB tb (gvS t tb k)) 8 with
    | none => gvS t tb k
    | some b => gvS t tb k ||| 2 ^ b
theorem gvS_succ (t : Nat → Nat) (tb k : Nat) : gvS t tb (k + 1) = match fwS t (wtB tb (gvS t tb k)) 8 with
    | none => gvS t tb k
    | some b => gvS t tb k ||| 2 ^ b := rfl
theorem gvS_lt (t : Nat → Nat) (tb : Nat) : ∀ k, gvS t tb k < 256 := by
  intro k
  induction k with
  | zero => exact (by decide : 0 < 256)
  | succ k ih =>
    rw [gvS_succ]
    cases hf : fwS t (wtB tb (gvS t tb k)) 8 with
    | none => exact ih
    | some b =>
      have := (fwS_ok t _ 8 b hf).1
      exact Nat.or_lt_two_pow (n := 8) ih (Nat.pow_lt_pow_right (by decide) this)
theorem gvS_stuck {t : Nat → Nat} {tb k : Nat} (h : fwS t (wtB tb (gvS t tb k)) 8 = none) : ∀ d, gvS t tb (k + d) = gvS t tb k := by
  intro d
  induction d with
  | zero => rfl
  | succ d ih => rw [← Nat.add_assoc, gvS_succ, ih, h]
/-- turns after d days of p places -/
def tnS (tb p : Nat) : Nat → Nat → Nat
  | 0 => fun _ => 0
  | d + 1 => fun i => tnS tb p d i + bitN (gvS (tnS tb p d) tb p) i
theorem tnS_le (tb p : Nat) : ∀ d i, tnS tb p d i ≤ d := by
  intro d
  induction d with
  | zero => intro i; exact Nat.le_refl _
  | succ d ih =>
    intro i
    have := ih i
    show tnS tb p d i + bitN (gvS (tnS tb p d) tb p) i ≤ d + 1
    unfold bitN
    cases (gvS (tnS tb p d) tb p).testBit i <;> simp <;> omega
section NoonS
variable {N : Nat} {σ : Mem}
theorem ma_told {tb : Nat} (htb : tb < 256) (e : mI σ 47 1 = nI tb) {i : Nat} (hi : i < 8) : f_Ma_isTold σ (nI i) = some (if tb.testBit i then 1 else 0) := by
  unfold f_Ma_isTold f_Ma_isNumber
  rw [if_neg (nI_pos (by omega)), if_neg (show ¬ ((8 : Int32) ≤ nI i) from nI_ge (b := 8) hi (by decide)), e]
  simp only [bnd1_s, if_neg ne10]
  have := stands_bit (s := tb) (by omega) (c := i) (by omega)
  unfold stands at this
  rw [← this]
  by_cases c : (nI tb >>> (nI i &&& 31)) &&& 1 = 1
  · rw [if_pos c]; simp [c]
  · rw [if_neg c]; simp [c]
theorem mo_buyerB {tb : Nat} (htb : tb < 256) (e : mI σ 65 47 = nI tb) {i : Nat} (hi : i < 8) : f_Mo_isBuyer σ (nI i) = some (if tb.testBit i then 1 else 0) := by
  unfold f_Mo_isBuyer
  rw [if_neg (nI_pos (by omega)), if_neg (show ¬ ((8 : Int32) ≤ nI i) from nI_ge (b := 8) hi (by decide)), e, mo_has, stands_bit (by omega) (by omega)]
  simp only [bnd1_s]
  cases tb.testBit i <;> rfl
theorem bit0 {g i : Nat} (hg : g < 256) (hi : i < 8) : ((nI g >>> (nI i &&& 31)) &&& 1 = 0) ↔ g.testBit i = false := by
  rw [bit_at (by omega) (by omega), Nat.testBit_eq_decide_div_mod_eq]
  have h : g / 2 ^ i % 2 < 2 := Nat.mod_lt _ (by decide)
  have e : (nI (g / 2 ^ i % 2) = 0) ↔ g / 2 ^ i % 2 = 0 := nI_eq (b := 0) (by omega) (by decide)
  rw [e]
  simp
theorem ma_nextAtNoon {tb g : Nat} {t : Nat → Nat} (hN : 100 < N) (htb : tb < 256) (hg : g < 256) (e : mI σ 47 1 = nI tb) (ht : ∀ i, i < 8 → t i < 1000 ∧ mI σ 55 i = nI (t i)) : f_Ma_nextAtNoon N σ (nI g) = some (fwI (fwS t (wtB tb g) 8)) := by
  unfold f_Ma_nextAtNoon
  refine loopS (L := fun z (a : Int32 × Int32) => L_Ma_nextAtNoon_l4 N (nI g) σ z a.1 a.2) (fun i => (fwI (fwS t (wtB tb g) i), nI i)) _ 8 (fun z i hi => ?_) (fun z => ?_) (by omega)
  · show B_Ma_nextAtNoon_l4 N (nI g) σ (L_Ma_nextAtNoon_l4 N (nI g) σ z) (fwI (fwS t (wtB tb g) i)) (nI i) = L_Ma_nextAtNoon_l4 N (nI g) σ z (fwI (fwS t (wtB tb g) (i + 1))) (nI (i + 1))
    have hok := fwS_ok t (wtB tb g) i
    rw [fwS_succ]
    unfold B_Ma_nextAtNoon_l4
    rw [if_neg (show ¬ ((8 : Int32) ≤ nI i) from nI_ge (b := 8) hi (by decide)), ma_told htb e hi]
    simp only [bnd1_s, letv, nI_1]
    have ew : wtB tb g i = (tb.testBit i && !g.testBit i) := rfl
    have e0 : ∀ x y : Option Nat, (if (nI g >>> (nI i &&& 31)) &&& 1 = 0 then x else y) = if g.testBit i = false then x else y := fun x y => by
      by_cases c : g.testBit i = false
      · rw [if_pos ((bit0 hg hi).mpr c), if_pos c]
      · rw [if_neg (fun z => c ((bit0 hg hi).mp z)), if_neg c]
    rw [e0, ew]
    cases tb.testBit i with
    | false => simp [bnd1_s]
    | true =>
      cases g.testBit i with
      | true => simp [bnd1_s]
      | false =>
        simp only [if_true, if_neg ne10, bnd1_s, if_neg (show ¬ (1 = 0) by decide), Bool.not_false, Bool.and_self, Bool.true_and]
        cases hf : fwS t (wtB tb g) i with
        | none => simp [fwI, bnd1_s]
        | some b =>
          have hb := (hok b hf).1
          obtain ⟨u1, u2⟩ := ht i hi
          obtain ⟨v1, v2⟩ := ht b (by omega)
          show bnd1 (bnd1 (if nI b = -1 then some 1 else grd (inb (nI i) 8) (grd (inb (nI b) 8) (if mI σ 55 (nI b).toNatClampNeg ≤ mI σ 55 (nI i).toNatClampNeg then some 0 else some 1))) _) _ = _
          rw [if_neg (nIm1 (by omega)), grd_t (inb_j hi (by decide)), grd_t (inb_j (by omega) (by decide)), nI_clamp (by omega), nI_clamp (by omega), u2, v2]
          by_cases c : t i < t b
          · rw [if_neg (nI_ge c (by omega))]
            simp [c, bnd1_s, fwI]
          · rw [if_pos (nI_le (by omega) (by omega))]
            simp [c, bnd1_s, fwI]
  · show B_Ma_nextAtNoon_l4 N (nI g) σ (L_Ma_nextAtNoon_l4 N (nI g) σ z) _ (nI 8) = _
    unfold B_Ma_nextAtNoon_l4
    rw [if_pos (by decide)]
theorem mo_fewestOf {tb g : Nat} {t : Nat → Nat} (hN : 100 < N) (htb : tb < 256) (hg : g < 256) (e : mI σ 65 47 = nI tb) (ht : ∀ i, i < 8 → t i < 1000 ∧ mI σ 108 i = nI (t i)) : f_Mo_fewestOf N σ (nI g) = some (fwI (fwS t (wtB tb g) 8)) := by
  unfold f_Mo_fewestOf
  refine loopS (L := fun z (a : Int32 × Int32) => L_Mo_fewestOf_l4 N (nI g) σ z a.1 a.2) (fun i => (fwI (fwS t (wtB tb g) i), nI i)) _ 8 (fun z i hi => ?_) (fun z => ?_) (by omega)
  · show B_Mo_fewestOf_l4 N (nI g) σ (L_Mo_fewestOf_l4 N (nI g) σ z) (fwI (fwS t (wtB tb g) i)) (nI i) = L_Mo_fewestOf_l4 N (nI g) σ z (fwI (fwS t (wtB tb g) (i + 1))) (nI (i + 1))
    have hok := fwS_ok t (wtB tb g) i
    rw [fwS_succ]
    unfold B_Mo_fewestOf_l4
    rw [if_neg (show ¬ ((8 : Int32) ≤ nI i) from nI_ge (b := 8) hi (by decide)), mo_buyerB htb e hi, mo_has, stands_bit (by omega) (by omega)]
    simp only [bnd1_s, letv, nI_1]
    have ew : wtB tb g i = (tb.testBit i && !g.testBit i) := rfl
    rw [ew]
    cases tb.testBit i with
    | false => simp [bnd1_s]
    | true =>
      cases g.testBit i with
      | true => simp [bnd1_s]
      | false =>
        simp only [if_true, if_neg ne10, if_neg f10, Bool.not_false, Bool.and_self, Bool.true_and]
        cases hf : fwS t (wtB tb g) i with
        | none => simp [fwI, bnd1_s]
        | some b =>
          have hb := (hok b hf).1
          obtain ⟨u1, u2⟩ := ht i hi
          obtain ⟨v1, v2⟩ := ht b (by omega)
          show bnd1 (bnd1 (if nI b = -1 then some 1 else grd (inb (nI i) 8) (grd (inb (nI b) 8) (if mI σ 108 (nI b).toNatClampNeg ≤ mI σ 108 (nI i).toNatClampNeg then some 0 else some 1))) _) _ = _
          rw [if_neg (nIm1 (by omega)), grd_t (inb_j hi (by decide)), grd_t (inb_j (by omega) (by decide)), nI_clamp (by omega), nI_clamp (by omega), u2, v2]
          by_cases c : t i < t b
          · rw [if_neg (nI_ge c (by omega))]
            simp [c, bnd1_s, fwI]
          · rw [if_pos (nI_le (by omega) (by omega))]
            simp [c, bnd1_s, fwI]
  · show B_Mo_fewestOf_l4 N (nI g) σ (L_Mo_fewestOf_l4 N (nI g) σ z) _ (nI 8) = _
    unfold B_Mo_fewestOf_l4
    rw [if_pos (by decide)]
/-- a day of the class -/
theorem ma_dayNoon {tb p : Nat} {t : Nat → Nat} (hN : 100 < N) (htb : tb < 256) (hp : p ≤ 8) (e : mI σ 47 1 = nI tb) (ht : ∀ i, i < 8 → t i < 500 ∧ mI σ 55 i = nI (t i)) (a1 a2 a5 : Int32) : ∃ σ', L_Ma_noonsOf_l31 N a1 a2 (nI p) a5 N 0 0 σ = some σ' ∧ ((∀ i, i < 8 → mI σ' 55 i = nI (t i + bitN (gvS t tb p) i)) ∧ Fr [55] [] σ σ') := by
  refine loopR (L := fun z (a : Int32 × Int32 × Mem) => L_Ma_noonsOf_l31 N a1 a2 (nI p) a5 z a.1 a.2.1 a.2.2) (P := fun k a => a.1 = nI (gvS t tb k) ∧ a.2.1 = nI k ∧ (∀ i, i < 8 → mI a.2.2 55 i = nI (t i + bitN (gvS t tb k) i)) ∧ Fr [55] [] σ a.2.2) (a := (0, 0, σ)) p ?_ ?_ (by omega) ⟨rfl, rfl, fun i hi => ?_, Fr.rf _ _ _⟩
  · rintro z k ⟨x, y, s⟩ hk ⟨h1, h2, h3, h4⟩
    have hx : x = _ := h1
    have hy : y = _ := h2
    subst hx; subst hy
    change Fr _ _ σ s at h4
    change ∀ i, i < 8 → mI s 55 i = nI (t i + bitN (gvS t tb k) i) at h3
    have hgl := gvS_lt t tb k
    have hnx := ma_nextAtNoon (N := N) (σ := s) (t := fun i => t i + bitN (gvS t tb k) i) hN htb hgl ((h4.I 47 1 (by decide) (by simp)).trans e) (fun i hi => ⟨by
      have := (ht i hi).1
      show t i + bitN (gvS t tb k) i < 1000
      unfold bitN
      cases (gvS t tb k).testBit i <;> simp <;> omega, h3 i hi⟩)
    have hcg : fwS (fun i => t i + bitN (gvS t tb k) i) (wtB tb (gvS t tb k)) 8 = fwS t (wtB tb (gvS t tb k)) 8 := fwS_congr (fun i hw => by
      unfold wtB at hw
      simp only [Bool.and_eq_true, Bool.not_eq_true'] at hw
      show t i + bitN (gvS t tb k) i = t i
      unfold bitN
      rw [hw.2]
      simp) 8
    rw [hcg] at hnx
    right
    show ∃ a' : Int32 × Int32 × Mem, B_Ma_noonsOf_l31 N a1 a2 (nI p) a5 (L_Ma_noonsOf_l31 N a1 a2 (nI p) a5 z) (nI (gvS t tb k)) (nI k) s = L_Ma_noonsOf_l31 N a1 a2 (nI p) a5 z a'.1 a'.2.1 a'.2.2 ∧ _
    unfold B_Ma_noonsOf_l31
    rw [if_neg (nI_ge hk (by omega)), hnx, gvS_succ]
    simp only [bnd1_s, letv, nI_1]
    cases hf : fwS t (wtB tb (gvS t tb k)) 8 with
    | none => exact ⟨(nI (gvS t tb k), nI (k + 1), s), rfl, rfl, rfl, h3, h4⟩
    | some b =>
      obtain ⟨hb, hwb⟩ := fwS_ok t _ 8 b hf
      unfold wtB at hwb
      simp only [Bool.and_eq_true, Bool.not_eq_true'] at hwb
      refine ⟨(nI (gvS t tb k ||| 2 ^ b), nI (k + 1), sI s 55 b (nI (t b + 1))), ?_, rfl, rfl, fun i hi => ?_, h4.aI rfl (by decide)⟩
      · show bnd1 (if nI b = -1 then _ else _) _ = _
        rw [if_neg (nIm1 (by omega))]
        rw [show fwI (some b) = nI b from rfl, grd_t (inb_j hb (by decide)), grd_t (inb_j hb (by decide))]
        show bnd1 (some (nI (gvS t tb k) ||| ((1 : Int32) <<< (nI b &&& 31)), sI s 55 (nI b).toNatClampNeg (mI s 55 (nI b).toNatClampNeg + 1))) _ = _
        rw [nI_clamp (by omega), h3 b hb, one_shl b (by omega), fa_or, nI_1]
        have : bitN (gvS t tb k) b = 0 := by unfold bitN; rw [hwb.2]; rfl
        rw [this]
        rfl
      · show mI (sI s 55 b (nI (t b + 1))) 55 i = nI (t i + bitN (gvS t tb k ||| 2 ^ b) i)
        rw [rdI]
        unfold bitN
        rw [Nat.testBit_or, Nat.testBit_two_pow]
        by_cases ei : i = b
        · subst ei
          rw [if_pos ⟨rfl, rfl⟩]
          simp
        · rw [if_neg (fun z => ei z.2), h3 i hi]
          unfold bitN
          simp [show ¬ b = i from fun z => ei z.symm]
  · rintro z ⟨x, y, s⟩ ⟨h1, h2, h3, h4⟩
    have hy : y = nI p := h2
    subst hy
    refine ⟨s, ?_, h3, h4⟩
    show B_Ma_noonsOf_l31 N a1 a2 (nI p) a5 (L_Ma_noonsOf_l31 N a1 a2 (nI p) a5 z) x (nI p) s = _
    unfold B_Ma_noonsOf_l31
    rw [if_pos (nI_le (Nat.le_refl _) (by omega))]
  · show mI σ 55 i = nI (t i + bitN 0 i)
    rw [(ht i hi).2]
    unfold bitN
    simp
theorem ma_noonsOf {tb p d i : Nat} (hN : 1000 < N) (htb : tb < 256) (hd : d ≤ 60) (hi : i < 8) (e : mI σ 47 1 = nI tb) {sh : Nat} (hsh : sh < 1000) (hpp : p = min 8 sh) : ∃ r, f_Ma_noonsOf N σ (nI i) (nI d) (nI sh) = some r ∧ r.1 = nI (tnS tb p d i) := by
  obtain ⟨s0, q0, v0⟩ := ja_fill (N := N) (σ := σ) (g := 55) (n := 8) 0 (by omega) (by decide)
  have F0 := fm_JA_fill_53178 q0
  have hmin : f_JM_min_7cf53 8 (nI sh) = some (nI p) := by
    rw [jm_min]
    unfold minI
    subst hpp
    by_cases c : sh < 8
    · rw [if_pos (show nI sh < 8 from nI_lt (b := 8) c (by decide)), Nat.min_eq_right (by omega)]
    · rw [if_neg (show ¬ nI sh < 8 from nI_nlt (b := 8) (by omega) (by omega)), Nat.min_eq_left (by omega)]
      rfl
  obtain ⟨s1, q1, v1⟩ : ∃ s, L_Ma_noonsOf_l19 N (nI i) (nI d) (nI p) N 0 s0 = some s ∧ ∀ i, i < 8 → mI s 55 i = nI (tnS tb p d i) := by
    refine loopR (L := fun z (a : Int32 × Mem) => L_Ma_noonsOf_l19 N (nI i) (nI d) (nI p) z a.1 a.2) (P := fun k a => a.1 = nI k ∧ (∀ i, i < 8 → mI a.2 55 i = nI (tnS tb p k i)) ∧ Fr [55] [] σ a.2) (a := (0, s0)) d ?_ ?_ (by omega) ⟨rfl, fun j hj => ?_, F0⟩
    · rintro z k ⟨x, s⟩ hk ⟨h1, h2, h3⟩
      have hx : x = nI k := h1
      subst hx
      change Fr _ _ σ s at h3
      obtain ⟨s', p', w1, w2⟩ := ma_dayNoon (N := N) (σ := s) (p := p) (t := tnS tb p k) (by omega) htb (by omega) ((h3.I 47 1 (by decide) (by simp)).trans e) (fun j hj => ⟨by have := tnS_le tb p k j; omega, h2 j hj⟩) (nI i) (nI d) (nI k)
      refine Or.inr ⟨(nI (k + 1), s'), ?_, rfl, w1, h3.t w2⟩
      show B_Ma_noonsOf_l19 N (nI i) (nI d) (nI p) (L_Ma_noonsOf_l19 N (nI i) (nI d) (nI p) z) (nI k) s = _
      unfold B_Ma_noonsOf_l19
      rw [if_neg (nI_ge hk (by omega)), p']
      simp only [bnd1_s, letv, nI_1]
    · rintro z ⟨x, s⟩ ⟨h1, h2, h3⟩
      have hx : x = nI d := h1
      subst hx
      refine ⟨s, ?_, h2⟩
      show B_Ma_noonsOf_l19 N (nI i) (nI d) (nI p) (L_Ma_noonsOf_l19 N (nI i) (nI d) (nI p) z) (nI d) s = _
      unfold B_Ma_noonsOf_l19
      rw [if_pos (nI_le (Nat.le_refl _) (by omega))]
    · show mI s0 55 j = nI 0
      rw [v0 j, if_pos hj]
      rfl
  refine ⟨(nI (tnS tb p d i), s1), ?_, rfl⟩
  unfold f_Ma_noonsOf f_Ma_isNumber
  rw [q0]
  simp only [bnd1_s]
  rw [hmin]
  simp only [bnd1_s]
  rw [q1]
  simp only [bnd1_s]
  rw [if_neg (nI_pos (by omega)), if_neg (show ¬ ((8 : Int32) ≤ nI i) from nI_ge (b := 8) hi (by decide))]
  simp only [bnd1_s, if_neg ne10]
  rw [grd_t (inb_j hi (by decide)), nI_clamp (by omega), v1 i hi]
/-- a day of the reference -/
theorem mo_dayNoon {tb p : Nat} {t : Nat → Nat} (hN : 100 < N) (htb : tb < 256) (hp : p ≤ 8) (e : mI σ 65 47 = nI tb) (ht : ∀ i, i < 8 → t i < 500 ∧ mI σ 108 i = nI (t i)) (a1 a2 a4 : Int32) : L_Mo_noon_l108 N a1 a2 (nI p) a4 N 0 0 σ = some (.inr (nI (gvS t tb p), σ)) := by
  have h : ∀ m K k, k + m = p → m < K → L_Mo_noon_l108 N a1 a2 (nI p) a4 K (nI (gvS t tb k)) (nI k) σ = some (.inr (nI (gvS t tb p), σ)) := by
    intro m
    induction m with
    | zero =>
      intro K k e1 hK
      obtain ⟨z, rfl⟩ : ∃ z, K = z + 1 := ⟨K - 1, by omega⟩
      show B_Mo_noon_l108 _ _ _ _ _ _ _ _ _ = _
      unfold B_Mo_noon_l108
      rw [if_pos (nI_le (by omega) (by omega)), show k = p by omega]
    | succ m ih =>
      intro K k e1 hK
      obtain ⟨z, rfl⟩ : ∃ z, K = z + 1 := ⟨K - 1, by omega⟩
      show B_Mo_noon_l108 _ _ _ _ _ _ _ _ _ = _
      unfold B_Mo_noon_l108
      rw [if_neg (nI_ge (by omega) (by omega)), mo_fewestOf hN htb (gvS_lt t tb k) e (fun i hi => ⟨by have := (ht i hi).1; omega, (ht i hi).2⟩)]
      simp only [bnd1_s, letv, nI_1]
      have hgs := gvS_succ t tb k
      cases hf : fwS t (wtB tb (gvS t tb k)) 8 with
      | none =>
        show (if (-1 : Int32) = -1 then _ else _) = _
        rw [if_pos rfl]
        have := gvS_stuck hf (p - k)
        rw [show k + (p - k) = p by omega] at this
        rw [this]
      | some b =>
        have hb := (fwS_ok t _ 8 b hf).1
        show (if nI b = -1 then _ else L_Mo_noon_l108 N a1 a2 (nI p) a4 z (nI (gvS t tb k) ||| ((1 : Int32) <<< (nI b &&& 31))) (nI (k + 1)) σ) = _
        rw [if_neg (nIm1 (by omega)), one_shl b (by omega), fa_or]
        rw [hf] at hgs
        have := ih z (k + 1) (by omega) (by omega)
        rw [hgs] at this
        exact this
  exact h p N 0 (by omega) (by omega)
theorem mo_addNoon {g : Nat} {t : Nat → Nat} (hN : 100 < N) (hg : g < 256) (ht : ∀ i, i < 8 → mI σ 108 i = nI (t i)) (a1 a2 a3 a4 : Int32) : ∃ σ', L_Mo_noon_l149 N a1 a2 a3 a4 (nI g) N 0 σ = some σ' ∧ ((∀ i, i < 8 → mI σ' 108 i = nI (t i + bitN g i)) ∧ Fr [108] [] σ σ') := by
  refine loopR (L := fun z (a : Int32 × Mem) => L_Mo_noon_l149 N a1 a2 a3 a4 (nI g) z a.1 a.2) (P := fun k a => a.1 = nI k ∧ (∀ i, i < 8 → mI a.2 108 i = nI (if i < k then t i + bitN g i else t i)) ∧ Fr [108] [] σ a.2) (a := (0, σ)) 8 ?_ ?_ (by omega) ⟨rfl, fun i hi => by rw [if_neg (Nat.not_lt_zero i)]; exact ht i hi, Fr.rf _ _ _⟩
  · rintro z k ⟨x, s⟩ hk ⟨h1, h2, h3⟩
    have hx : x = nI k := h1
    subst hx
    change ∀ i, i < 8 → mI s 108 i = _ at h2
    refine Or.inr ⟨(nI (k + 1), sI s 108 k (nI (t k + bitN g k))), ?_, rfl, fun i hi => ?_, h3.aI rfl (by decide)⟩
    · show B_Mo_noon_l149 N a1 a2 a3 a4 (nI g) (L_Mo_noon_l149 N a1 a2 a3 a4 (nI g) z) (nI k) s = _
      unfold B_Mo_noon_l149
      rw [if_neg (show ¬ ((8 : Int32) ≤ nI k) from nI_ge (b := 8) hk (by decide)), grd_t (inb_j hk (by decide)), grd_t (inb_j hk (by decide)), nI_clamp (by omega), h2 k hk, if_neg (Nat.lt_irrefl k), bit_at (by omega) (by omega)]
      simp only [letv, nI_1]
      rw [nI_add]
      have : g / 2 ^ k % 2 = bitN g k := by
        unfold bitN
        rw [Nat.testBit_eq_decide_div_mod_eq]
        rcases (show g / 2 ^ k % 2 = 0 ∨ g / 2 ^ k % 2 = 1 by omega) with e | e <;> rw [e] <;> simp
      rw [this]
    · show mI (sI s 108 k (nI (t k + bitN g k))) 108 i = _
      rw [rdI]
      by_cases ei : i = k
      · subst ei
        rw [if_pos ⟨rfl, rfl⟩, if_pos (by omega)]
      · rw [if_neg (fun z => ei z.2), h2 i hi]
        by_cases c : i < k
        · rw [if_pos c, if_pos (by omega)]
        · rw [if_neg c, if_neg (by omega)]
  · rintro z ⟨x, s⟩ ⟨h1, h2, h3⟩
    have hx : x = nI 8 := h1
    subst hx
    refine ⟨s, ?_, fun i hi => ?_, h3⟩
    · show B_Mo_noon_l149 N a1 a2 a3 a4 (nI g) (L_Mo_noon_l149 N a1 a2 a3 a4 (nI g) z) (nI 8) s = _
      unfold B_Mo_noon_l149
      rw [if_pos (by decide)]
    · have := h2 i hi
      rw [if_pos hi] at this
      exact this
end NoonS
theorem mo_noonL {N : Nat} {σ : Mem} {tb p d i : Nat} (hN : 1000 < N) (htb : tb < 256) (hp : p ≤ 8) (hd : d ≤ 60) (hi : i < 8) (e : mI σ 65 47 = nI tb) (h0 : ∀ j, j < 8 → mI σ 108 j = 0) : ∃ r, L_Mo_noon_l96 N (nI d) (nI i) (nI p) N 0 σ = some r ∧ (r.1 = nI (tnS tb p d i) ∧ Fr [108] [] σ r.2) := by
  refine loopR (L := fun z (a : Int32 × Mem) => L_Mo_noon_l96 N (nI d) (nI i) (nI p) z a.1 a.2) (P := fun k a => a.1 = nI k ∧ (∀ i, i < 8 → mI a.2 108 i = nI (tnS tb p k i)) ∧ Fr [108] [] σ a.2) (a := (0, σ)) d ?_ ?_ (by omega) ⟨rfl, fun j hj => h0 j hj, Fr.rf _ _ _⟩
  · rintro z k ⟨x, s⟩ hk ⟨h1, h2, h3⟩
    have hx : x = nI k := h1
    subst hx
    change Fr _ _ σ s at h3
    have hdy := mo_dayNoon (N := N) (σ := s) (p := p) (t := tnS tb p k) (by omega) htb hp ((h3.I 65 47 (by decide) (by simp)).trans e) (fun j hj => ⟨by have := tnS_le tb p k j; omega, h2 j hj⟩) (nI d) (nI i) (nI k)
    obtain ⟨s', p', w1, w2⟩ := mo_addNoon (N := N) (σ := s) (by omega) (gvS_lt (tnS tb p k) tb p) h2 (nI d) (nI i) (nI p) (nI k)
    refine Or.inr ⟨(nI (k + 1), s'), ?_, rfl, w1, h3.t w2⟩
    show B_Mo_noon_l96 N (nI d) (nI i) (nI p) (L_Mo_noon_l96 N (nI d) (nI i) (nI p) z) (nI k) s = _
    unfold B_Mo_noon_l96
    rw [if_neg (nI_ge hk (by omega)), hdy]
    simp only [bnd1_s, sm, q2]
    rw [p']
    simp only [bnd1_s, letv, nI_1]
  · rintro z ⟨x, s⟩ ⟨h1, h2, h3⟩
    have hx : x = nI d := h1
    subst hx
    refine ⟨(nI (tnS tb p d i), s), ?_, rfl, h3⟩
    show B_Mo_noon_l96 N (nI d) (nI i) (nI p) (L_Mo_noon_l96 N (nI d) (nI i) (nI p) z) (nI d) s = _
    unfold B_Mo_noon_l96
    rw [if_pos (nI_le (Nat.le_refl _) (by omega)), grd_t (inb_j hi (by decide)), nI_clamp (by omega), h2 i hi]
theorem da_shaded {N : Nat} {σ : Mem} {h : Nat} (hN : 1000 < N) (hh : h < 24) : f_Da_shadedSquares N σ (nI h) = some (nI (cntB (fun sq => shB σ sq h) 144)) := by
  unfold f_Da_shadedSquares
  refine loopS (L := fun z (a : Int32 × Int32) => L_Da_shadedSquares_l4 N (nI h) σ z a.1 a.2) (fun i => (nI (cntB (fun sq => shB σ sq h) i), nI i)) _ 144 (fun z i hi => ?_) (fun z => ?_) (by omega)
  · show B_Da_shadedSquares_l4 N (nI h) σ (L_Da_shadedSquares_l4 N (nI h) σ z) (nI (cntB _ i)) (nI i) = L_Da_shadedSquares_l4 N (nI h) σ z (nI (cntB _ (i + 1))) (nI (i + 1))
    unfold B_Da_shadedSquares_l4
    rw [if_neg (show ¬ ((144 : Int32) ≤ nI i) from nI_ge (b := 144) hi (by decide)), da_whoCasts hh hi, cntB_succ]
    simp only [bnd1_s, letv, nI_1, shB]
    by_cases c : who σ h i = 0 <;> simp [c, bnd1_s, nI_1]
  · show B_Da_shadedSquares_l4 N (nI h) σ (L_Da_shadedSquares_l4 N (nI h) σ z) _ (nI 144) = _
    unfold B_Da_shadedSquares_l4
    rw [if_pos (by decide)]
theorem mo_shaded {N : Nat} {σ : Mem} (hN : 1000 < N) (hD : DayEq σ) (a1 a2 : Int32) : L_Mo_noon_l29 N a1 a2 σ N 0 0 = some (nI (cntB (fun sq => shB σ sq 12) 144)) := by
  refine loopS (L := fun z (a : Int32 × Int32) => L_Mo_noon_l29 N a1 a2 σ z a.1 a.2) (fun i => (nI (cntB (fun sq => shB σ sq 12) i), nI i)) _ 144 (fun z i hi => ?_) (fun z => ?_) (by omega)
  · show B_Mo_noon_l29 N a1 a2 σ (L_Mo_noon_l29 N a1 a2 σ z) (nI (cntB _ i)) (nI i) = L_Mo_noon_l29 N a1 a2 σ z (nI (cntB _ (i + 1))) (nI (i + 1))
    unfold B_Mo_noon_l29
    rw [if_neg (show ¬ ((144 : Int32) ≤ nI i) from nI_ge (b := 144) hi (by decide)), show f_Mo_whoOn σ 12 (nI i) = _ from mo_whoOn hD (h := 12) (by decide) hi, cntB_succ]
    simp only [bnd1_s, letv, nI_1, shB]
    by_cases c : who σ 12 i = 0 <;> simp [c, bnd1_s, nI_1]
  · show B_Mo_noon_l29 N a1 a2 σ (L_Mo_noon_l29 N a1 a2 σ z) _ (nI 144) = _
    unfold B_Mo_noon_l29
    rw [if_pos (by decide)]
theorem st_noon {N : Nat} (hN : 70000 ≤ N) : St_noon N := by
  intro σ a1 a2 hI
  unfold f_Sh_noon f_Mo_noon
  rcases in1_cases a1 1 60 (by decide) (by decide) with g | ⟨g, d, hd1, hd2, rfl⟩
  · have g0 : f_Mo_in a1 1 60 = some 0 := g
    refine ⟨-1, σ, σ, ?_, by rw [g0]; rfl, hI⟩
    rw [mo_in] at g0
    by_cases c1 : a1 < 1
    · rw [if_pos c1]
    · rw [if_neg c1]
      by_cases c2 : 60 < a1
      · rw [if_pos c2]
      · rw [if_neg c1, if_neg c2] at g0
        exact absurd g0 (by decide)
  have g : f_Mo_in (nI d) 1 60 = some 1 := g
  rw [if_neg (show ¬ nI d < 1 from nI_nlt (b := 1) hd1 (by omega)), if_neg (show ¬ (60 : Int32) < nI d from nI_nlt (a := 60) hd2 (by decide)), g]
  simp only [bnd1_s, if_neg ne10]
  rcases told_eq hI a2 with ⟨b1, b2⟩ | ⟨b1, b2, i, hi, rfl, -⟩
  · exact ⟨-1, σ, σ, by rw [b1]; rfl, by rw [b2]; rfl, hI⟩
  obtain ⟨σ1, t1, I1, R1⟩ := today_ok hN hI
  have F1 := fm_Sh_today t1
  obtain ⟨⟨tb, htb, e1, e2⟩, -⟩ := I1.2.2.2.1
  have hsh := cntB_le (fun sq => shB σ1 sq 12) 144
  obtain ⟨⟨r, s1⟩, q1, v1⟩ := ma_noonsOf (N := N) (σ := σ1) (p := min 8 (cntB (fun sq => shB σ1 sq 12) 144)) (by omega) htb hd2 hi e1 (sh := cntB (fun sq => shB σ1 sq 12) 144) (by omega) rfl
  change r = _ at v1
  have Fs : Fr [55] [] σ1 s1 := by
    have h := q1
    unfold f_Ma_noonsOf at h
    exact fm_Ma_noonsOf q1
  have J1 := I1.k (Fs.keeps (by decide))
  obtain ⟨σ2, p2, D2, I2, R2, F2⟩ := mo_laysDay hN J1 (R1.k (Fs.keeps (by decide)))
  have F12 : Fr [55, 84, 85, 86, 87, 88] [(65, 37)] σ1 σ2 := (Fs.mono (by decide) (by simp)).c F2 (by decide) (by decide)
  have hsm := mo_shaded (N := N) (by omega) D2 (nI d) (nI i)
  have esb : (fun sq => shB σ2 sq 12) = fun sq => shB σ1 sq 12 := funext fun sq => by rw [shB_k (F12.rowI 38 (by decide) (by simp)) (F12.rowI 39 (by decide) (by simp))]
  rw [esb] at hsm
  obtain ⟨s3, q3, h3, F3⟩ : ∃ s, L_Mo_noon_l72 N (nI d) (nI i) (nI (min 8 (cntB (fun sq => shB σ1 sq 12) 144))) N 0 σ2 = some s ∧ (∀ j, j < 8 → mI s 108 j = 0) ∧ Fr [108] [] σ2 s := by
    refine loopR (L := fun z (a : Int32 × Mem) => L_Mo_noon_l72 N (nI d) (nI i) (nI (min 8 (cntB (fun sq => shB σ1 sq 12) 144))) z a.1 a.2) (P := fun k a => a.1 = nI k ∧ (∀ j, j < k → mI a.2 108 j = 0) ∧ Fr [108] [] σ2 a.2) (a := (0, σ2)) 8 ?_ ?_ (by omega) ⟨rfl, fun j hj => absurd hj (Nat.not_lt_zero j), Fr.rf _ _ _⟩
    · rintro z k ⟨x, s⟩ hk ⟨h1, h2, h3⟩
      have hx : x = nI k := h1
      subst hx
      refine Or.inr ⟨(nI (k + 1), sI s 108 k 0), ?_, rfl, fun j hj => ?_, h3.aI rfl (by decide)⟩
      · show B_Mo_noon_l72 N _ _ _ _ (nI k) s = _
        unfold B_Mo_noon_l72
        rw [if_neg (show ¬ ((8 : Int32) ≤ nI k) from nI_ge (b := 8) hk (by decide)), grd_t (inb_j hk (by decide)), nI_clamp (by omega)]
        simp only [letv, nI_1]
      · show mI (sI s 108 k 0) 108 j = 0
        rw [rdI]
        by_cases ej : j = k
        · rw [if_pos ⟨rfl, ej⟩]
        · rw [if_neg (fun z => ej z.2)]
          exact h2 j (by omega)
    · rintro z ⟨x, s⟩ ⟨h1, h2, h3⟩
      have hx : x = nI 8 := h1
      subst hx
      refine ⟨s, ?_, h2, h3⟩
      show B_Mo_noon_l72 N _ _ _ _ (nI 8) s = _
      unfold B_Mo_noon_l72
      rw [if_pos (by decide)]
  have F13 : Fr [55, 84, 85, 86, 87, 88, 108] [(65, 37)] σ1 s3 := (F12.mono (by decide) (fun _ z => z)).c F3 (by decide) (by simp)
  obtain ⟨⟨r4, s4⟩, q4, v4, F4⟩ := mo_noonL (N := N) (σ := s3) (tb := tb) (p := min 8 (cntB (fun sq => shB σ1 sq 12) 144)) (by omega) htb (by omega) hd2 hi ((F13.I 65 47 (by decide) (by decide)).trans e2) h3
  change r4 = _ at v4
  change Fr _ _ s3 s4 at F4
  subst v1; subst v4
  have F24 : Fr [108] [] σ2 s4 := F3.t F4
  refine ⟨nI (tnS tb (min 8 (cntB (fun sq => shB σ1 sq 12) 144)) d i), s1, s4, ?_, ?_, I2.k (F24.keeps (by decide))⟩
  · rw [b1, t1]
    simp only [bnd1_s, if_neg ne10]
    rw [show f_Da_shadedSquares N σ1 12 = _ from da_shaded (N := N) (σ := σ1) (h := 12) (by omega) (by decide)]
    simp only [bnd1_s]
    rw [q1]
    rfl
  · have eb : mI s1 65 47 = mI σ 65 47 := (Fs.I 65 47 (by decide) (by simp)).trans (F1.I 65 47 (by decide) (by decide))
    rw [isBuyer_k eb, b2, p2]
    simp only [bnd1_s, if_neg ne10]
    rw [hsm]
    simp only [bnd1_s]
    have hmin : f_Mo_min 8 (nI (cntB (fun sq => shB σ1 sq 12) 144)) = some (nI (min 8 (cntB (fun sq => shB σ1 sq 12) 144))) := by
      rw [mo_min]
      unfold minI
      by_cases c : cntB (fun sq => shB σ1 sq 12) 144 < 8
      · rw [if_pos (show nI _ < 8 from nI_lt (b := 8) c (by decide)), Nat.min_eq_right (by omega)]
      · rw [if_neg (show ¬ nI _ < 8 from nI_nlt (b := 8) (by omega) (by omega)), Nat.min_eq_left (by omega)]
        rfl
    rw [hmin]
    simp only [bnd1_s]
    rw [q3]
    exact q4
