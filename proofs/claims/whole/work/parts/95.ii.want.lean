-- part ii: the class finds the eight best squares of each buyer
theorem rdL (σ : Mem) (k j : Nat) (v : Int64) (a i : Nat) : mL (sL σ k j v) a i = if a = k ∧ i = j then v else mL σ a i := by
  by_cases h : a = k ∧ i = j
  · rw [if_pos h, h.1, h.2, mL_sL, up1_s]
  · rw [if_neg h]; exact up2_n _ _ h
theorem mI_sL (σ : Mem) (k j : Nat) (v : Int64) : mI (sL σ k j v) = mI σ := rfl
theorem mL_sI (σ : Mem) (k j : Nat) (v : Int32) : mL (sI σ k j v) = mL σ := rfl
def TM (σ : Mem) (b : Nat) (t : TL) : Prop := t.2.2 ≤ 8 ∧ mI σ 51 b = nI t.2.2 ∧ ∀ i, i < t.2.2 → t.1 i < 144 ∧ t.2.1 i ≤ 999 ∧ mI σ 49 (b * 8 + i) = nI (t.1 i) ∧ mI σ 50 (b * 8 + i) = nI (t.2.1 i)
def Oth (b : Nat) (σ σ' : Mem) : Prop := (∀ j, j < b * 8 ∨ b * 8 + 8 ≤ j → mI σ' 49 j = mI σ 49 j ∧ mI σ' 50 j = mI σ 50 j) ∧ ∀ j, j ≠ b → mI σ' 51 j = mI σ 51 j
theorem Oth.t {b : Nat} {σ σ1 σ2 : Mem} (h : Oth b σ σ1) (g : Oth b σ1 σ2) : Oth b σ σ2 := ⟨fun j hj => ⟨(g.1 j hj).1.trans (h.1 j hj).1, (g.1 j hj).2.trans (h.1 j hj).2⟩, fun j hj => (g.2 j hj).trans (h.2 j hj)⟩
theorem Oth.tm {a b : Nat} {σ σ' : Mem} {t : TL} (h : Oth b σ σ') (hab : a ≠ b) (g : TM σ a t) : TM σ' a t := by
  refine ⟨g.1, (h.2 a hab).trans g.2.1, fun i hi => ?_⟩
  have := g.1
  have e := h.1 (a * 8 + i) (by omega)
  obtain ⟨g1, g2, g3, g4⟩ := g.2.2 i hi
  exact ⟨g1, g2, e.1.trans g3, e.2.trans g4⟩
def apd (σ : Mem) (b c q x : Nat) : Mem := sI (sI (sI σ 49 (b * 8 + c) (nI q)) 50 (b * 8 + c) (nI x)) 51 b (nI (c + 1))
theorem ma_append {σ : Mem} {b c q x : Nat} (hb : b < 8) (hc : c < 8) (e : mI σ 51 b = nI c) : (grd (inb (nI b) 8) <| grd (inb (nI (b * 8) + (mI σ 51 b)) 64) <| letv (sI σ 49 ((nI (b * 8) + mI σ 51 b).toNatClampNeg) (nI q)) fun σ152 => grd (inb (nI b) 8) <| grd (inb (nI (b * 8) + mI σ152 51 b) 64) <| letv (sI σ152 50 ((nI (b * 8) + mI σ152 51 b).toNatClampNeg) (nI x)) fun σ167 => grd (inb (nI b) 8) <| grd (inb (nI b) 8) <| letv (sI σ167 51 b ((mI σ167 51 b) + 1)) fun σ177 => some σ177) = some (apd σ b c q x) := by
  have g := inb_j hb (show 8 < 2 ^ 31 by decide)
  have ea : nI (b * 8) + nI c = nI (b * 8 + c) := nI_add _ _
  have g2 := inb_j (show b * 8 + c < 64 by omega) (show 64 < 2 ^ 31 by decide)
  have e1 : mI (sI σ 49 (b * 8 + c) (nI q)) 51 b = nI c := by rw [rdI, if_neg (fun z => absurd z.1 (by decide))]; exact e
  have e2 : mI (sI (sI σ 49 (b * 8 + c) (nI q)) 50 (b * 8 + c) (nI x)) 51 b = nI c := by rw [rdI, if_neg (fun z => absurd z.1 (by decide))]; exact e1
  rw [grd_t g, e, ea, grd_t g2, nI_clamp (by omega)]
  simp only [letv]
  rw [e1, grd_t g, ea, grd_t g2, nI_clamp (by omega), e2, grd_t g, grd_t g, nI_1]
  rfl
theorem apd_oth {σ : Mem} {b c q x : Nat} (hc : c < 8) : Oth b σ (apd σ b c q x) := by
  unfold apd
  refine ⟨fun j hj => ?_, fun j hj => ?_⟩
  · exact ⟨by rw [rdI, if_neg (by omega), rdI, if_neg (by omega), rdI, if_neg (by omega)], by rw [rdI, if_neg (by omega), rdI, if_neg (by omega), rdI, if_neg (by omega)]⟩
  · rw [rdI, rdI, rdI, if_neg (by omega), if_neg (by omega), if_neg (by omega)]
theorem apd_tm {σ : Mem} {b c q x : Nat} {f g : Nat → Nat} (hc : c < 8) (hq : q < 144) (hx : x ≤ 999) (h : ∀ i, i < c → f i < 144 ∧ g i ≤ 999 ∧ mI σ 49 (b * 8 + i) = nI (f i) ∧ mI σ 50 (b * 8 + i) = nI (g i)) {f' g' : Nat → Nat} (hf : ∀ i, i < c → f' i = f i ∧ g' i = g i) (hf' : f' c = q ∧ g' c = x) : TM (apd σ b c q x) b (f', g', c + 1) := by
  refine ⟨hc, ?_, fun i hi => ?_⟩
  · unfold apd; rw [rdI, if_pos ⟨rfl, rfl⟩]
  · change i < c + 1 at hi
    show f' i < 144 ∧ g' i ≤ 999 ∧ mI (apd σ b c q x) 49 (b * 8 + i) = nI (f' i) ∧ mI (apd σ b c q x) 50 (b * 8 + i) = nI (g' i)
    have e49 : mI (apd σ b c q x) 49 (b * 8 + i) = if i = c then nI q else mI σ 49 (b * 8 + i) := by
      unfold apd
      rw [rdI, if_neg (by omega), rdI, if_neg (by omega), rdI]
      by_cases d : i = c
      · rw [if_pos d, if_pos ⟨rfl, by omega⟩]
      · rw [if_neg d, if_neg (by omega)]
    have e50 : mI (apd σ b c q x) 50 (b * 8 + i) = if i = c then nI x else mI σ 50 (b * 8 + i) := by
      unfold apd
      rw [rdI, if_neg (by omega), rdI]
      by_cases d : i = c
      · rw [if_pos d, if_pos ⟨rfl, by omega⟩]
      · rw [if_neg d, if_neg (by omega), rdI, if_neg (by omega)]
    rw [e49, e50]
    by_cases d : i = c
    · rw [if_pos d, if_pos d, d, hf'.1, hf'.2]; exact ⟨hq, hx, rfl, rfl⟩
    · rw [if_neg d, if_neg d, (hf i (by omega)).1, (hf i (by omega)).2]; exact h i (by omega)
theorem ma_minL {N : Nat} {σ : Mem} {b : Nat} {w : Nat → Nat} {a2 a3 : Int32} (hN : 100 < N) (hb : b < 8) (h : ∀ i, i < 8 → w i ≤ 999 ∧ mI σ 50 (b * 8 + i) = nI (w i)) : L_Ma_want_l27 N (nI b) a2 a3 (nI (b * 8)) σ N (nI (b * 8)) (nI (b * 8) + 1) = some (nI (b * 8 + wmin w 7)) := by
  rw [nI_1]
  refine loopS (L := fun z (x : Int32 × Int32) => L_Ma_want_l27 N (nI b) a2 a3 (nI (b * 8)) σ z x.1 x.2) (fun i => (nI (b * 8 + wmin w i), nI (b * 8 + 1 + i))) _ 7 (fun z i hi => ?_) (fun z => ?_) (by omega)
  · show B_Ma_want_l27 N (nI b) a2 a3 (nI (b * 8)) σ (L_Ma_want_l27 N (nI b) a2 a3 (nI (b * 8)) σ z) (nI (b * 8 + wmin w i)) (nI (b * 8 + 1 + i)) = L_Ma_want_l27 N (nI b) a2 a3 (nI (b * 8)) σ z (nI (b * 8 + wmin w (i + 1))) (nI (b * 8 + 1 + (i + 1)))
    have hm := (wmin_ok w i).1
    rw [show b * 8 + 1 + i = b * 8 + (i + 1) by omega]
    unfold B_Ma_want_l27
    rw [show nI (b * 8) + 8 = nI (b * 8 + 8) from nI_add _ 8, if_neg (nI_ge (by omega) (by omega)), grd_t (inb_j (show b * 8 + (i + 1) < 64 by omega) (by decide)), grd_t (inb_j (show b * 8 + wmin w i < 64 by omega) (by decide)), nI_clamp (by omega), nI_clamp (by omega), (h _ (show wmin w i < 8 by omega)).2, (h (i + 1) (by omega)).2]
    have l1 := (h _ (show wmin w i < 8 by omega)).1
    have l2 := (h (i + 1) (by omega)).1
    by_cases c : w (wmin w i) < w (i + 1)
    · rw [if_pos (nI_lt c (by omega)), show wmin w (i + 1) = wmin w i by simp only [wmin, if_pos c]]
      simp only [bnd1_s, letv]
      rw [nI_1, show b * 8 + (i + 1) + 1 = b * 8 + 1 + (i + 1) by omega]
    · rw [if_neg (fun z => c ((nI_ltI (by omega) (by omega)).mp z)), show wmin w (i + 1) = i + 1 by simp only [wmin, if_neg c]]
      simp only [bnd1_s, letv]
      rw [nI_1, show b * 8 + (i + 1) + 1 = b * 8 + 1 + (i + 1) by omega]
  · show B_Ma_want_l27 N (nI b) a2 a3 (nI (b * 8)) σ _ (nI (b * 8 + wmin w 7)) (nI (b * 8 + 1 + 7)) = _
    unfold B_Ma_want_l27
    rw [if_pos (by rw [show nI (b * 8) + 8 = nI (b * 8 + 8) from nI_add _ 8]; exact nI_le (by omega) (by omega))]
theorem ma_shiftL {N : Nat} {σ : Mem} {b j : Nat} {a2 a3 : Int32} (hN : 100 < N) (hb : b < 8) (hj : j ≤ 7) : ∃ σ', L_Ma_want_l80 N (nI b) a2 a3 (nI (b * 8)) N (nI (b * 8 + j)) σ = some σ' ∧ (∀ i, i < 7 → mI σ' 49 (b * 8 + i) = mI σ 49 (b * 8 + sft j i) ∧ mI σ' 50 (b * 8 + i) = mI σ 50 (b * 8 + sft j i)) ∧ (∀ k, k < b * 8 ∨ b * 8 + 8 ≤ k → mI σ' 49 k = mI σ 49 k ∧ mI σ' 50 k = mI σ 50 k) ∧ mI σ' 51 = mI σ 51 := by
  refine loopR (L := fun z (x : Int32 × Mem) => L_Ma_want_l80 N (nI b) a2 a3 (nI (b * 8)) z x.1 x.2) (P := fun i x => x.1 = nI (b * 8 + (j + i)) ∧ (∀ k, k < 8 → mI x.2 49 (b * 8 + k) = mI σ 49 (b * 8 + if j ≤ k ∧ k < j + i then k + 1 else k) ∧ mI x.2 50 (b * 8 + k) = mI σ 50 (b * 8 + if j ≤ k ∧ k < j + i then k + 1 else k)) ∧ (∀ k, k < b * 8 ∨ b * 8 + 8 ≤ k → mI x.2 49 k = mI σ 49 k ∧ mI x.2 50 k = mI σ 50 k) ∧ mI x.2 51 = mI σ 51) (a := (nI (b * 8 + j), σ)) (7 - j) ?_ ?_ (by omega) ⟨rfl, fun k _ => by rw [if_neg (by omega)]; exact ⟨rfl, rfl⟩, fun _ _ => ⟨rfl, rfl⟩, rfl⟩
  · rintro z i ⟨x, s⟩ hi ⟨h1, h2, h3, h4⟩
    change x = _ at h1
    subst h1
    right
    refine ⟨(nI (b * 8 + (j + (i + 1))), sI (sI s 49 (b * 8 + (j + i)) (mI s 49 (b * 8 + (j + i) + 1))) 50 (b * 8 + (j + i)) (mI s 50 (b * 8 + (j + i) + 1))), ?_, rfl, fun k hk => ?_, fun k hk => ?_, ?_⟩
    · show B_Ma_want_l80 N (nI b) a2 a3 (nI (b * 8)) (L_Ma_want_l80 N (nI b) a2 a3 (nI (b * 8)) z) (nI (b * 8 + (j + i))) s = _
      unfold B_Ma_want_l80
      have g1 := inb_j (show b * 8 + (j + i) + 1 < 64 by omega) (show 64 < 2 ^ 31 by decide)
      have g2 := inb_j (show b * 8 + (j + i) < 64 by omega) (show 64 < 2 ^ 31 by decide)
      rw [show nI (b * 8) + 7 = nI (b * 8 + 7) from nI_add _ 7, if_neg (nI_ge (by omega) (by omega)), nI_1, grd_t g1, grd_t g2, nI_clamp (by omega), nI_clamp (by omega)]
      simp only [letv]
      rw [grd_t g1, grd_t g2, rdI, if_neg (by omega)]
      rw [show b * 8 + (j + i) + 1 = b * 8 + (j + (i + 1)) by omega]
    · show mI (sI (sI s 49 (b * 8 + (j + i)) (mI s 49 (b * 8 + (j + i) + 1))) 50 (b * 8 + (j + i)) (mI s 50 (b * 8 + (j + i) + 1))) 49 (b * 8 + k) = _ ∧ mI (sI (sI s 49 (b * 8 + (j + i)) (mI s 49 (b * 8 + (j + i) + 1))) 50 (b * 8 + (j + i)) (mI s 50 (b * 8 + (j + i) + 1))) 50 (b * 8 + k) = _
      have hn := h2 (j + i + 1) (by omega)
      rw [if_neg (by omega)] at hn
      by_cases d : k = j + i
      · have e1 : b * 8 + k = b * 8 + (j + i) := by omega
        have e2 : b * 8 + (j + i) + 1 = b * 8 + (j + i + 1) := by omega
        rw [if_pos (show j ≤ k ∧ k < j + (i + 1) by omega), d, e2]
        exact ⟨by rw [rdI, if_neg (by omega), rdI, if_pos ⟨rfl, rfl⟩, hn.1], by rw [rdI, if_pos ⟨rfl, rfl⟩, hn.2]⟩
      · have e3 : (if j ≤ k ∧ k < j + (i + 1) then k + 1 else k) = (if j ≤ k ∧ k < j + i then k + 1 else k) := by split <;> split <;> omega
        rw [e3]
        exact ⟨by rw [rdI, if_neg (by omega), rdI, if_neg (by omega), (h2 k hk).1], by rw [rdI, if_neg (by omega), rdI, if_neg (by omega), (h2 k hk).2]⟩
    · show mI (sI (sI s 49 (b * 8 + (j + i)) (mI s 49 (b * 8 + (j + i) + 1))) 50 (b * 8 + (j + i)) (mI s 50 (b * 8 + (j + i) + 1))) 49 k = _ ∧ mI (sI (sI s 49 (b * 8 + (j + i)) (mI s 49 (b * 8 + (j + i) + 1))) 50 (b * 8 + (j + i)) (mI s 50 (b * 8 + (j + i) + 1))) 50 k = _
      rw [rdI, if_neg (by omega), rdI, if_neg (by omega), rdI, if_neg (by omega), rdI, if_neg (by omega)]
      exact h3 k hk
    · show mI (sI (sI s 49 _ _) 50 _ _) 51 = _
      rw [← h4]
      funext k
      rw [rdI, if_neg (by omega), rdI, if_neg (by omega)]
  · rintro z ⟨x, s⟩ ⟨h1, h2, h3, h4⟩
    change x = _ at h1
    subst h1
    refine ⟨s, ?_, fun i hi => ?_, h3, h4⟩
    · show B_Ma_want_l80 N (nI b) a2 a3 (nI (b * 8)) _ (nI (b * 8 + (j + (7 - j)))) s = _
      unfold B_Ma_want_l80
      rw [if_pos (by rw [show nI (b * 8) + 7 = nI (b * 8 + 7) from nI_add _ 7]; exact nI_le (by omega) (by omega))]
    · have := h2 i (by omega)
      rw [show (if j ≤ i ∧ i < j + (7 - j) then i + 1 else i) = sft j i by unfold sft; split <;> split <;> omega] at this
      exact this
theorem ma_want {N : Nat} {σ : Mem} {b q x : Nat} {t : TL} (hN : 100 < N) (hb : b < 8) (hq : q < 144) (hx : x ≤ 999) (ht : TM σ b t) : ∃ σ', f_Ma_want N σ (nI b) (nI q) (nI x) = some σ' ∧ TM σ' b (want1 t q x) ∧ Oth b σ σ' := by
  obtain ⟨t1, t2, t3⟩ := ht
  have g := inb_j hb (show 8 < 2 ^ 31 by decide)
  unfold f_Ma_want
  rw [show nI b * 8 = nI (b * 8) from pk_mul b 8, nI_clamp (by omega)]
  simp only [letv]
  rw [grd_t g]
  unfold want1
  by_cases c : t.2.2 = 8
  · rw [c] at t2 t3
    have hL := ma_minL (N := N) (a2 := nI q) (a3 := nI x) hN hb (fun i hi => ⟨(t3 i hi).2.1, (t3 i hi).2.2.2⟩)
    obtain ⟨m1, -⟩ := wmin_ok t.2.1 7
    rw [if_pos c]
    generalize wmin t.2.1 7 = j at hL m1
    have tj := t3 j (by omega)
    rw [if_pos (show mI σ 51 b = 8 from t2), hL]
    simp only [bnd1_s]
    rw [grd_t (inb_j (show b * 8 + j < 64 by omega) (by decide)), nI_clamp (by omega), tj.2.2.2]
    by_cases d : t.2.1 j < x
    · rw [if_pos d, if_pos (nI_lt d (by omega))]
      obtain ⟨s, s1, s2, s3, s4⟩ := ma_shiftL (N := N) (σ := σ) (a2 := nI q) (a3 := nI x) hN hb m1
      rw [s1]
      simp only [bnd1_s]
      rw [grd_t g]
      have e8 : mI s 51 b = nI 8 := by rw [s4]; exact t2
      have e7 : mI (sI s 51 b (mI s 51 b - 1)) 51 b = nI 7 := by rw [rdI, if_pos ⟨rfl, rfl⟩, e8]; exact pk_sub (a := 8) (b := 1) (by decide)
      refine ⟨_, (grd_t g).trans (ma_append (q := q) (x := x) hb (show 7 < 8 by decide) e7), ?_, ?_⟩
      · refine apd_tm (f := fun i => t.1 (sft j i)) (g := fun i => t.2.1 (sft j i)) (by decide) hq hx (fun i hi => ?_) (fun i hi => ?_) ?_
        · have hs : sft j i < 8 := by unfold sft; split <;> omega
          obtain ⟨a1, a2, a3, a4⟩ := t3 _ hs
          refine ⟨a1, a2, ?_, ?_⟩
          · rw [rdI, if_neg (by omega), (s2 i hi).1]; exact a3
          · rw [rdI, if_neg (by omega), (s2 i hi).2]; exact a4
        · unfold putF; rw [if_neg (by omega), if_neg (by omega)]; exact ⟨rfl, rfl⟩
        · unfold putF; rw [if_pos rfl, if_pos rfl]; exact ⟨rfl, rfl⟩
      · refine Oth.t (σ1 := sI s 51 b (mI s 51 b - 1)) ⟨fun k hk => ?_, fun k hk => ?_⟩ (apd_oth (by decide))
        · rw [rdI, if_neg (by omega), rdI, if_neg (by omega)]; exact s3 k hk
        · rw [rdI, if_neg (by omega), s4]
    · rw [if_neg d, if_neg (fun z => d ((nI_ltI (by omega) (by omega)).mp z))]
      exact ⟨σ, rfl, ⟨by omega, by rw [c]; exact t2, fun i hi => t3 i (by omega)⟩, fun _ _ => ⟨rfl, rfl⟩, fun _ _ => rfl⟩
  · rw [if_neg c]
    rw [if_neg (show ¬ mI σ 51 b = 8 by rw [t2]; exact fun z => c ((nI_eq (b := 8) (by omega) (by decide)).mp z))]
    refine ⟨_, ma_append (q := q) (x := x) hb (show t.2.2 < 8 by omega) t2, ?_, apd_oth (by omega)⟩
    refine apd_tm (f := t.1) (g := t.2.1) (by omega) hq hx t3 (fun i hi => ?_) ?_
    · unfold addF; rw [if_neg (by omega), if_neg (by omega)]; exact ⟨rfl, rfl⟩
    · unfold addF; rw [if_pos rfl, if_pos rfl]; exact ⟨rfl, rfl⟩
