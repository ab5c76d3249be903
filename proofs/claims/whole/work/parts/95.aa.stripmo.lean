-- ===== strips: the reference =====
section StripM
variable {N : Nat} {W : LW}
theorem mo_stripRow {σ σ0 : Mem} {f n k : Nat} {b : Nat → Nat} (hN : 1000 < N) (hI : Inv N σ0) (hR : Rdy σ0) (hL : DayL N σ0 W) (hD : DayEq σ0) (hk : k < n) (hn : n ≤ 12) (hf : f + k < 24) (F : Fr [84, 85, 89] [] σ0 σ) (hbo : ∀ sq, b sq ≤ 268435456 ∧ (b sq < 268435456 → b sq ≤ 30000))
    (hb : (k + 1 = n ∧ b = fun _ => 0) ∨ (k + 1 < n ∧ ∃ T d, d ≤ 12 ∧ rwM σ (k + 1) T ∧ TOk2 T d ∧ b = fun sq => (bA T sq 4).2)) : ∃ σ', L_Mo_laysStrip_l11 N (nI f) (nI n) (nI k) N 0 σ = some σ' ∧ (rwM σ' k (rT W σ0 (f + k) b) ∧ (∀ j, (j < 144 * k ∨ 144 * k + 144 ≤ j) → mI σ' 89 j = mI σ 89 j) ∧ Fr [84, 85, 89] [] σ σ') := by
  refine loopR (L := fun z (x : Int32 × Mem) => L_Mo_laysStrip_l11 N (nI f) (nI n) (nI k) z x.1 x.2) (P := fun i x => x.1 = nI i ∧ (∀ s, s < i → mI x.2 89 (144 * k + s) = nI (mS (rT W σ0 (f + k) b s))) ∧ (∀ j, (j < 144 * k ∨ 144 * k + 144 ≤ j) → mI x.2 89 j = mI σ 89 j) ∧ Fr [84, 85, 89] [] σ x.2) (a := (0, σ)) 144 ?_ ?_ (by omega) ⟨rfl, fun s hs => absurd hs (Nat.not_lt_zero s), fun _ _ => rfl, Fr.rf _ _ _⟩
  · rintro z i ⟨x, s⟩ hi ⟨h1, h2, h3, h4⟩
    have hx : x = nI i := h1
    subst hx
    change ∀ q, q < i → mI s 89 (144 * k + q) = _ at h2
    change ∀ j, _ → mI s 89 j = _ at h3
    change Fr _ _ σ s at h4
    have Fs : Fr [84, 85, 89] [] σ0 s := F.t h4
    have Is := hI.k (Fs.keeps (by decide))
    have Rs := hR.k (Fs.keeps (by decide))
    have Ds := hD.k (Fs.keeps (by decide))
    have r38 : mI s 38 = mI σ0 38 := Fs.rowI 38 (by decide) (by simp)
    have r39 : mI s 39 = mI σ0 39 := Fs.rowI 39 (by decide) (by simp)
    obtain ⟨s1, p1⟩ := mo_priceOf (N := N) (W := W) (by omega) Is Rs (hL.k (Fs.keeps (by decide))) Ds hf hi
    have F1 := fm_Mo_priceOf p1
    rw [prc_k W (Fs.I 19 8 (by decide) (by simp)) r38 r39, (pN_ok W σ0 (f + k) i).2] at p1
    have hp := (pN_ok W σ0 (f + k) i).1
    obtain ⟨hb1, hb3⟩ := hbo i
    have hb2 : (bnd1 (if nI k = nI n - 1 then some 0 else some 1000000000) fun y23_s0 => L_Mo_laysStrip_l38 N (nI f) (nI n) (nI k) (nI i) s N y23_s0 0) = some (nI (mS (b i))) := by
      rw [show nI n - 1 = nI (n - 1) from pk_sub (b := 1) (by omega)]
      rcases hb with ⟨e, rfl⟩ | ⟨hk1, T, d, hd, hT, ho, rfl⟩
      · rw [if_pos (by rw [show n - 1 = k by omega])]
        simp only [bnd1_s]
        obtain ⟨z, rfl⟩ : ∃ z, N = z + 1 := ⟨N - 1, by omega⟩
        show B_Mo_laysStrip_l38 _ _ _ _ _ _ _ _ _ = _
        unfold B_Mo_laysStrip_l38
        rw [if_neg (by decide), show nI n - 1 = nI (n - 1) from pk_sub (b := 1) (by omega), if_pos (nI_le (by omega) (by omega))]
        rfl
      · rw [if_neg (fun z => by have := (nI_eq (by omega) (by omega)).mp z; omega)]
        simp only [bnd1_s]
        exact mo_stripMin (by omega) hk1 hn (fun q hq => by rw [h3 _ (by omega)]; exact hT q hq) ho hd hi (nI f)
    have hml := mS_le (b i)
    obtain ⟨t, ht, t89, tF⟩ : ∃ t, (bnd1 (bnd1 (if who σ0 (f + k) i = 0 then some 0 else (if (1000000000 : Int32) ≤ nI (mS (b i)) then some 0 else some 1) : Option Nat) fun t89b => if t89b = 0 then some (0 : Int32) else some 1) fun y89_s0 => bnd1 (if y89_s0 = 0 then some (1000000000, s) else (bnd2 (f_Mo_priceOf N s (nI i) (nI (f + k))) fun r134 σ134 => some (nI (mS (b i)) + (32 * r134), σ134)) : Option (Int32 × Mem)) fun s121 => some s121) = some (nI (mS (rT W σ0 (f + k) b i)), t) ∧ mI t 89 = mI s 89 ∧ Fr [84, 85] [] s t := by
      unfold rT
      by_cases c : who σ0 (f + k) i = 0
      · rw [if_pos c, if_pos c, mS_inf]
        exact ⟨s, rfl, rfl, Fr.rf _ _ _⟩
      · rw [if_neg c, if_neg c]
        by_cases c2 : b i < 268435456
        · have hb4 := hb3 c2
          rw [if_neg (show ¬ (1000000000 : Int32) ≤ nI (mS (b i)) from nI_ge (b := 1000000000) (mS_lt c2).1 (by decide)), if_pos c2]
          refine ⟨s1, ?_, F1.rowI 89 (by decide) (by simp), F1⟩
          show bnd1 (bnd2 (f_Mo_priceOf N s (nI i) (nI (f + k))) _) _ = _
          rw [p1]
          show some (nI (mS (b i)) + 32 * nI (pN W σ0 (f + k) i), s1) = _
          rw [show (32 : Int32) * nI (pN W σ0 (f + k) i) = nI (32 * pN W σ0 (f + k) i) from pk_mul 32 _, nI_add, mS_p (by omega)]
        · rw [show b i = 268435456 by omega, mS_inf, if_pos (by decide), if_neg (by decide), mS_inf]
          exact ⟨s, rfl, rfl, Fr.rf _ _ _⟩
    refine Or.inr ⟨(nI (i + 1), sI t 89 (144 * k + i) (nI (mS (rT W σ0 (f + k) b i)))), ?_, rfl, fun q hq => ?_, fun j hj => ?_, (h4.c tF (by decide) (by simp)).aI rfl (by decide)⟩
    · show B_Mo_laysStrip_l11 N (nI f) (nI n) (nI k) (L_Mo_laysStrip_l11 N (nI f) (nI n) (nI k) z) (nI i) s = _
      unfold B_Mo_laysStrip_l11
      rw [if_neg (show ¬ ((144 : Int32) ≤ nI i) from nI_ge (b := 144) hi (by decide)), nI_add, mo_whoOn Ds hf hi, who_k r38 r39, ixM]
      obtain ⟨y, y1, y2⟩ := bnd1_e hb2
      rw [y1]
      simp only [bnd1_s, letv, nI_1]
      rw [y2]
      simp only [bnd1_s]
      obtain ⟨u, u1, u2⟩ := bnd1_e ht
      rw [u1]
      simp only [bnd1_s]
      obtain ⟨w, w1, w2⟩ := bnd1_e u2
      rw [w1]
      have hw := Option.some.inj w2
      rw [hw]
      simp only [bnd1_s, q2]
      rw [grd_t (inb_j (by omega) (by decide)), nI_clamp (by omega)]
    · show mI (sI t 89 (144 * k + i) _) 89 (144 * k + q) = _
      rw [rdI]
      by_cases e : q = i
      · subst e; rw [if_pos ⟨rfl, rfl⟩]
      · rw [if_neg (fun z => by omega), t89]
        exact h2 q (by omega)
    · show mI (sI t 89 (144 * k + i) _) 89 j = _
      rw [sI_n _ _ (by omega), t89]
      exact h3 j hj
  · rintro z ⟨x, s⟩ ⟨h1, h2, h3, h4⟩
    have hx : x = nI 144 := h1
    subst hx
    refine ⟨s, ?_, h2, h3, h4⟩
    show B_Mo_laysStrip_l11 N (nI f) (nI n) (nI k) _ (nI 144) s = _
    unfold B_Mo_laysStrip_l11
    rw [if_pos (by decide)]
theorem mo_laysStrip {σ : Mem} {f n : Nat} (hN : 1000 < N) (hI : Inv N σ) (hR : Rdy σ) (hL : DayL N σ W) (hD : DayEq σ) (hn : n ≤ 12) (hn1 : 1 ≤ n) (hf : f + n ≤ 24) : ∃ σ', f_Mo_laysStrip N σ (nI f) (nI n) = some σ' ∧ ((∀ r, r < n → rwM σ' r (sT W σ (f + n - 1) (n - 1 - r))) ∧ Fr [84, 85, 89] [] σ σ') := by
  unfold f_Mo_laysStrip
  simp only [letv]
  rw [Int32.sub_eq_add_neg]
  obtain ⟨s, p, v, F'⟩ := loopR (L := fun z (x : Int32 × Mem) => L_Mo_laysStrip_l4 N (nI f) (nI n) z x.1 x.2) (P := fun i x => x.1 = nI (n - i) + -1 ∧ (∀ r, n - i ≤ r → r < n → rwM x.2 r (sT W σ (f + n - 1) (n - 1 - r))) ∧ Fr [84, 85, 89] [] σ x.2) (Q := fun s => (∀ r, n - n ≤ r → r < n → rwM s r (sT W σ (f + n - 1) (n - 1 - r))) ∧ Fr [84, 85, 89] [] σ s) (a := (nI n + -1, σ)) (K := N) n (by
    rintro z i ⟨x, s⟩ hi ⟨h1, h2, h3⟩
    have hx : x = nI (n - 1 - i) := by
      have : x = nI (n - i) + -1 := h1
      rw [this, show n - i = (n - 1 - i) + 1 by omega]
      exact pk_m1 _
    subst hx
    change ∀ r, n - i ≤ r → r < n → rwM s r _ at h2
    change Fr _ _ σ s at h3
    obtain ⟨b, hbT, hbo, hbb⟩ : ∃ b, sT W σ (f + n - 1) i = rT W σ (f + (n - 1 - i)) b ∧ (∀ sq, b sq ≤ 268435456 ∧ (b sq < 268435456 → b sq ≤ 30000)) ∧ ((n - 1 - i + 1 = n ∧ b = fun _ => 0) ∨ (n - 1 - i + 1 < n ∧ ∃ T d, d ≤ 12 ∧ rwM s (n - 1 - i + 1) T ∧ TOk2 T d ∧ b = fun sq => (bA T sq 4).2)) := by
      cases i with
      | zero => exact ⟨fun _ => 0, by rw [show f + (n - 1 - 0) = f + n - 1 by omega]; rfl, fun _ => ⟨by show 0 ≤ _; omega, fun _ => by show 0 ≤ _; omega⟩, Or.inl ⟨by omega, rfl⟩⟩
      | succ i =>
        have hok := sT_ok W σ (f + n - 1) i (by omega)
        refine ⟨fun sq => (bA (sT W σ (f + n - 1) i) sq 4).2, ?_, fun sq => ?_, Or.inr ⟨by omega, sT W σ (f + n - 1) i, i, by omega, ?_, hok, rfl⟩⟩
        · show rT W σ (f + n - 1 - (i + 1)) _ = _
          rw [show f + n - 1 - (i + 1) = f + (n - 1 - (i + 1)) by omega]
        · show (bA (sT W σ (f + n - 1) i) sq 4).2 ≤ _ ∧ ((bA (sT W σ (f + n - 1) i) sq 4).2 < _ → (bA (sT W σ (f + n - 1) i) sq 4).2 ≤ _)
          rw [bA_cst]
          obtain ⟨c1, c2⟩ := cst_ok hok (by omega) sq (bA (sT W σ (f + n - 1) i) sq 4).1
          refine ⟨c1, fun h => ?_⟩
          have := (c2 h).2
          omega
        · have := h2 (n - 1 - (i + 1) + 1) (by omega) (by omega)
          rw [show n - 1 - (n - 1 - (i + 1) + 1) = i by omega] at this
          exact this
    obtain ⟨s', p', v', w', F''⟩ := mo_stripRow (N := N) (W := W) (σ := s) (f := f) (k := n - 1 - i) (n := n) hN hI hR hL hD (by omega) hn (by omega) h3 hbo hbb
    refine Or.inr ⟨(nI (n - 1 - i) + -1, s'), ?_, by rw [show n - (i + 1) = n - 1 - i by omega], fun r hr1 hr2 => ?_, h3.t F''⟩
    · show B_Mo_laysStrip_l4 N (nI f) (nI n) (L_Mo_laysStrip_l4 N (nI f) (nI n) z) (nI (n - 1 - i)) s = _
      unfold B_Mo_laysStrip_l4
      rw [if_neg (nI_pos (by omega)), p']
      rfl
    · by_cases e : r = n - 1 - i
      · subst e
        rw [show n - 1 - (n - 1 - i) = i by omega, hbT]
        exact v'
      · intro q hq
        show mI s' 89 _ = _
        rw [w' _ (by omega)]
        exact h2 r (by omega) hr2 q hq) (by
    rintro z ⟨x, s⟩ ⟨h1, h2, h3⟩
    have hx : x = nI (n - n) + -1 := h1
    rw [Nat.sub_self] at hx
    subst hx
    refine ⟨s, ?_, h2, h3⟩
    show B_Mo_laysStrip_l4 N (nI f) (nI n) _ (nI 0 + -1) s = _
    unfold B_Mo_laysStrip_l4
    rw [if_pos (by decide)]) (by omega) ⟨by rw [Nat.sub_zero], fun r h1 h2 => by omega, Fr.rf _ _ _⟩
  exact ⟨s, p, fun r hr => v r (by omega) hr, F'⟩
theorem mo_stripBest {σ : Mem} {T : Nat → Nat} {d : Nat} (hN : 1000 < N) (hT : rwM σ 0 T) (ho : TOk2 T d) (a1 a3 : Int32) : L_Mo_strip_l76 N a1 a3 σ N 1000000000 0 = some (nI (mS (mn T 144).1)) := by
  refine loopS (L := fun z (x : Int32 × Int32) => L_Mo_strip_l76 N a1 a3 σ z x.1 x.2) (fun i => (nI (mS (mn T i).1), nI i)) _ 144 (fun z i hi => ?_) (fun z => ?_) (by omega)
  · show B_Mo_strip_l76 N a1 a3 σ (L_Mo_strip_l76 N a1 a3 σ z) (nI (mS (mn T i).1)) (nI i) = L_Mo_strip_l76 N a1 a3 σ z (nI (mS (mn T (i + 1)).1)) (nI (i + 1))
    have hT' := hT i hi
    rw [Nat.mul_zero, Nat.zero_add] at hT'
    have l1 := mS_le (mn T i).1
    have l2 := mS_le (T i)
    unfold B_Mo_strip_l76
    rw [if_neg (show ¬ ((144 : Int32) ≤ nI i) from nI_ge (b := 144) hi (by decide)), grd_t (inb_j (show i < 1728 by omega) (by decide)), nI_clamp (by omega), hT', mo_min, minI_n (by omega) (by omega), mn_succ]
    simp only [bnd1_s, letv, nI_1]
    by_cases c : T i < (mn T i).1
    · have := mS_mono (Nat.le_of_lt c)
      rw [if_pos c, Nat.min_eq_right this]
    · have := mS_mono (show (mn T i).1 ≤ T i by omega)
      rw [if_neg c, Nat.min_eq_left this]
  · show B_Mo_strip_l76 N a1 a3 σ _ _ (nI 144) = _
    unfold B_Mo_strip_l76
    rw [if_pos (by decide)]
/-- a search for the first square at which a test holds -/
theorem mo_next {σ : Mem} {t : Nat} (hN : 1000 < N) (ht : t < 144) (a1 a2 a3 : Int32) (Pq : Nat → Prop) (hno : ∀ q, q < t → ∀ rec : Int32 → Option Int32, B_Mo_nextStrip_l3 N a1 a2 a3 σ rec (nI q) = rec (nI (q + 1))) (hyes : ∀ rec : Int32 → Option Int32, B_Mo_nextStrip_l3 N a1 a2 a3 σ rec (nI t) = some (nI t)) : f_Mo_nextStrip N σ a1 a2 a3 = some (nI t) := by
  unfold f_Mo_nextStrip
  have := loopS (L := fun z (x : Int32) => L_Mo_nextStrip_l3 N a1 a2 a3 σ z x) (fun i => nI i) (nI t) t (fun z i hi => hno i hi _) (fun z => hyes _) (K := N) (by omega)
  rw [show L_Mo_nextStrip_l3 N a1 a2 a3 σ N 0 = some (nI t) from this]
  rfl
theorem mo_next0 {σ : Mem} {T : Nat → Nat} {d : Nat} (hN : 1000 < N) (hT : rwM σ 0 T) (ho : TOk2 T d) (hC : (mn T 144).1 < 268435456) : f_Mo_nextStrip N σ 0 (-1) (nI (mS (mn T 144).1)) = some (nI (mn T 144).2) := by
  obtain ⟨h1, h2, h3⟩ := mn_ok (T := T) 144
  obtain ⟨g1, g2, g3⟩ := h3 hC
  have hv : ∀ q, q < 144 → (144 * (0 : Int32) + nI q) = nI q ∧ mI σ 89 q = nI (mS (T q)) := fun q hq => by
    have hT' := hT q hq
    rw [Nat.mul_zero, Nat.zero_add] at hT'
    refine ⟨?_, hT'⟩
    show nI 144 * nI 0 + nI q = _
    rw [pk_mul, nI_add, Nat.mul_zero, Nat.zero_add]
  refine mo_next hN g1 0 (-1) _ (fun _ => True) (fun q hq rec => ?_) (fun rec => ?_)
  · obtain ⟨v1, v2⟩ := hv q (by omega)
    have l1 := mS_le (T q)
    have l2 := mS_le (mn T 144).1
    unfold B_Mo_nextStrip_l3
    rw [if_pos rfl, v1, grd_t (inb_j (show q < 1728 by omega) (by decide)), nI_clamp (by omega), v2, if_neg (fun z => g3 q hq (mS_inj (ho q).1 h1 ((nI_eq (by omega) (by omega)).mp z)))]
    simp only [bnd1_s, if_true, letv, nI_1]
  · obtain ⟨v1, v2⟩ := hv (mn T 144).2 g1
    unfold B_Mo_nextStrip_l3
    rw [if_pos rfl, v1, grd_t (inb_j (by omega) (by decide)), nI_clamp (by omega), v2, g2, if_pos rfl]
    rfl
theorem mo_next1 {σ : Mem} {T : Nat → Nat} {d k p : Nat} (hN : 1000 < N) (hk : k < 12) (hT : rwM σ k T) (ho : TOk2 T d) (hd : d ≤ 12) (hp : p < 144) : f_Mo_nextStrip N σ (nI k) (nI p) (nI (mS (bA T p 4).2)) = some (nI (bA T p 4).1) := by
  obtain ⟨b1, b2, b3, b4⟩ := bA_ok T hp 4
  have hle := bA_le ho hd p
  refine mo_next hN b1 (nI k) (nI p) _ (fun _ => True) (fun q hq rec => ?_) (fun rec => ?_)
  · have l1 := mS_le (cst T p q)
    have l2 := mS_le (bA T p 4).2
    unfold B_Mo_nextStrip_l3
    rw [if_neg (nIm1 (by omega)), mo_isBeside hp (by omega), mo_goesBy hk hT ho hd hp (by omega)]
    simp only [bnd1_s]
    cases hn : nbrB p q with
    | false =>
      simp only [if_neg f10, if_true, bnd1_s, letv, nI_1]
    | true =>
      have hc : ¬ cst T p q = (bA T p 4).2 := fun z => by
        have := b4 q (nbrB_iff.mp hn)
        omega
      simp only [if_true, if_neg ne10]
      rw [if_neg (fun z => hc (mS_inj (cst_ok ho hd p q).1 hle ((nI_eq (by omega) (by omega)).mp z)))]
      simp only [bnd1_s, if_true, letv, nI_1]
  · unfold B_Mo_nextStrip_l3
    rw [if_neg (nIm1 (by omega)), mo_isBeside hp b1, mo_goesBy hk hT ho hd hp b1, ← bA_cst, nbrB_iff.mpr b3]
    simp only [bnd1_s, if_true, if_neg ne10]
    rfl
/-- what is left behind the first j squares -/
def bqS (R : Nat → Nat → Nat) (n j : Nat) : Nat := if j = 0 then (mn (R 0) 144).1 else if j < n then (bA (R j) (ptS R (j - 1)) 4).2 else 0
theorem mo_path {σ σ0 : Mem} {f n w : Nat} (hN : 1000 < N) (hI : Inv N σ0) (hR : Rdy σ0) (hL : DayL N σ0 W) (hD : DayEq σ0) (hn : n ≤ 12) (hn1 : 1 ≤ n) (hf : f + n ≤ 24) (hw : w < n) (F : Fr [84, 85, 89] [] σ0 σ) (hT : ∀ r, r < n → rwM σ r (sT W σ0 (f + n - 1) (n - 1 - r))) (hC : (mn (sT W σ0 (f + n - 1) (n - 1)) 144).1 < 268435456) : ∃ σ', L_Mo_strip_l144 N (nI f) (nI (f + w)) N (nI (mS (mn (sT W σ0 (f + n - 1) (n - 1)) 144).1)) (-1) 0 σ = some (nI (ptS (fun r => sT W σ0 (f + n - 1) (n - 1 - r)) w), σ') ∧ Fr [84, 85, 89] [] σ0 σ' := by
  obtain ⟨R, hRd⟩ : ∃ R : Nat → Nat → Nat, R = fun r => sT W σ0 (f + n - 1) (n - 1 - r) := ⟨_, rfl⟩
  have hR0 : R 0 = sT W σ0 (f + n - 1) (n - 1) := by rw [hRd]; show sT W σ0 (f + n - 1) (n - 1 - 0) = _; rw [Nat.sub_zero]
  have hok : ∀ r, r < n → TOk2 (R r) (n - 1 - r) := fun r _ => by rw [hRd]; exact sT_ok W σ0 _ _ (by omega)
  have hTR : ∀ r, r < n → rwM σ r (R r) := fun r hr => by rw [hRd]; exact hT r hr
  rw [← hRd]
  rw [← hR0] at hC ⊢
  obtain ⟨m1, m2, m3⟩ := mn_ok (T := R 0) 144
  obtain ⟨g1, g2, g3⟩ := m3 hC
  have hpt : ∀ j, ptS R j < 144 := by
    intro j
    induction j with
    | zero => exact g1
    | succ j ih => exact (bA_ok (R (j + 1)) ih 4).1
  -- each row by what is behind it
  have hrow : ∀ j, j < n → ∃ b : Nat → Nat, R j = rT W σ0 (f + j) b ∧ (∀ sq, b sq < 268435456 → b sq ≤ 30000) ∧ (j + 1 < n → b = fun sq => (bA (R (j + 1)) sq 4).2) ∧ (j + 1 = n → b = fun _ => 0) := fun j hj => by
    by_cases c : j + 1 = n
    · refine ⟨fun _ => 0, ?_, fun _ _ => by show 0 ≤ _; omega, fun h => by omega, fun _ => rfl⟩
      rw [hRd]
      show sT W σ0 (f + n - 1) (n - 1 - j) = _
      rw [show n - 1 - j = 0 by omega, show f + j = f + n - 1 by omega]
      rfl
    · refine ⟨fun sq => (bA (R (j + 1)) sq 4).2, ?_, fun sq h => ?_, fun _ => rfl, fun h => absurd h c⟩
      · rw [hRd]
        show sT W σ0 (f + n - 1) (n - 1 - j) = rT W σ0 (f + j) (fun sq => (bA (sT W σ0 (f + n - 1) (n - 1 - (j + 1))) sq 4).2)
        rw [show n - 1 - j = (n - 1 - (j + 1)) + 1 by omega]
        show rT W σ0 (f + n - 1 - (n - 1 - (j + 1) + 1)) _ = _
        rw [show f + n - 1 - (n - 1 - (j + 1) + 1) = f + j by omega]
      · change (bA (R (j + 1)) sq 4).2 < _ at h
        show (bA (R (j + 1)) sq 4).2 ≤ _
        rw [bA_cst] at h ⊢
        have := ((cst_ok (hok (j + 1) (by omega)) (by omega) sq _).2 h).2
        omega
  -- all squares of the row are reached
  have hreach : ∀ j, j < n → bqS R n j < 268435456 ∧ R j (ptS R j) < 268435456 := by
    intro j
    induction j with
    | zero =>
      intro _
      refine ⟨hC, ?_⟩
      show R 0 (mn (R 0) 144).2 < _
      rw [g2]
      exact hC
    | succ j ih =>
      intro hj
      obtain ⟨-, i2⟩ := ih (by omega)
      obtain ⟨b, hb, hb2, hb3, -⟩ := hrow j (by omega)
      have hbv : b (ptS R j) < 268435456 := by
        rw [hb] at i2
        unfold rT at i2
        by_cases c : who σ0 (f + j) (ptS R j) = 0
        · rw [if_pos c] at i2; omega
        · rw [if_neg c] at i2
          by_cases c2 : b (ptS R j) < 268435456
          · exact c2
          · rw [if_neg c2] at i2; omega
      rw [hb3 hj] at hbv
      change (bA (R (j + 1)) (ptS R j) 4).2 < _ at hbv
      have e1 : bqS R n (j + 1) = (bA (R (j + 1)) (ptS R j) 4).2 := by
        unfold bqS
        rw [if_neg (by omega), if_pos hj]
        rfl
      refine ⟨by rw [e1]; exact hbv, ?_⟩
      show R (j + 1) (bA (R (j + 1)) (ptS R j) 4).1 < _
      rw [bA_cst] at hbv
      unfold cst at hbv
      by_cases c : 268435456 ≤ R (j + 1) (bA (R (j + 1)) (ptS R j) 4).1
      · rw [if_pos c] at hbv; omega
      · omega
  obtain ⟨r, p, v⟩ := loopR (L := fun z (x : Int32 × Int32 × Int32 × Mem) => L_Mo_strip_l144 N (nI f) (nI (f + w)) z x.1 x.2.1 x.2.2.1 x.2.2.2) (P := fun j x => x.1 = nI (mS (bqS R n j)) ∧ x.2.1 = (if j = 0 then -1 else nI (ptS R (j - 1))) ∧ x.2.2.1 = nI j ∧ Fr [84, 85, 89] [] σ0 x.2.2.2 ∧ mI x.2.2.2 89 = mI σ 89) (Q := fun r => r.1 = nI (ptS R w) ∧ Fr [84, 85, 89] [] σ0 r.2) (a := (nI (mS (mn (R 0) 144).1), -1, 0, σ)) (K := N) (w + 1) (by
    rintro z j ⟨x, y, u, s⟩ hj ⟨h1, h2, h3, h4, h5⟩
    have hx : x = _ := h1
    have hy : y = _ := h2
    have hu : u = nI j := h3
    subst hx; subst hy; subst hu
    change Fr _ _ σ0 s at h4
    change mI s 89 = mI σ 89 at h5
    have hjn : j < n := by omega
    have hTs : rwM s j (R j) := fun q hq => by rw [h5]; exact hTR j hjn q hq
    obtain ⟨q1, q2'⟩ := hreach j hjn
    have Is := hI.k (h4.keeps (by decide))
    have Rs := hR.k (h4.keeps (by decide))
    have Ds := hD.k (h4.keeps (by decide))
    have r38 : mI s 38 = mI σ0 38 := h4.rowI 38 (by decide) (by simp)
    have r39 : mI s 39 = mI σ0 39 := h4.rowI 39 (by decide) (by simp)
    have hfj : f + j < 24 := by omega
    obtain ⟨s1, p1⟩ := mo_priceOf (N := N) (W := W) (by omega) Is Rs (hL.k (h4.keeps (by decide))) Ds hfj (hpt j)
    have F1 := fm_Mo_priceOf p1
    rw [prc_k W (h4.I 19 8 (by decide) (by simp)) r38 r39, (pN_ok W σ0 (f + j) (ptS R j)).2] at p1
    have hp := (pN_ok W σ0 (f + j) (ptS R j)).1
    have hnx : f_Mo_nextStrip N s (nI j) (if j = 0 then -1 else nI (ptS R (j - 1))) (nI (mS (bqS R n j))) = some (nI (ptS R j)) := by
      cases j with
      | zero => exact mo_next0 hN hTs (hok 0 hjn) hC
      | succ j =>
        have e1 : bqS R n (j + 1) = (bA (R (j + 1)) (ptS R j) 4).2 := by
          unfold bqS
          rw [if_neg (by omega), if_pos hjn]
          rfl
        rw [if_neg (by omega), e1]
        exact mo_next1 hN (by omega) hTs (hok (j + 1) hjn) (by omega) (hpt j)
    -- what is left
    have hleft : mS (R j (ptS R j)) = mS (bqS R n (j + 1)) + 32 * pN W σ0 (f + j) (ptS R j) := by
      obtain ⟨b, hb, hb2, hb3, hb4⟩ := hrow j hjn
      have hv := q2'
      rw [hb] at hv ⊢
      unfold rT at hv ⊢
      by_cases c : who σ0 (f + j) (ptS R j) = 0
      · rw [if_pos c] at hv; omega
      · rw [if_neg c] at hv ⊢
        by_cases c2 : b (ptS R j) < 268435456
        · have hbl := hb2 _ c2
          rw [if_pos c2, mS_p (by omega)]
          have : bqS R n (j + 1) = b (ptS R j) := by
            unfold bqS
            rw [if_neg (by omega)]
            by_cases c3 : j + 1 < n
            · rw [if_pos c3, hb3 c3]; rfl
            · rw [if_neg c3, hb4 (by omega)]
          rw [this]
        · rw [if_neg c2] at hv; omega
    have hl1 := mS_le (R j (ptS R j))
    refine Or.inr ⟨(nI (mS (bqS R n (j + 1))), nI (ptS R j), nI (j + 1), s1), ?_, rfl, by rw [if_neg (by omega)]; rfl, rfl, h4.c F1 (by decide) (by simp), (F1.rowI 89 (by decide) (by simp)).trans h5⟩
    show B_Mo_strip_l144 N (nI f) (nI (f + w)) (L_Mo_strip_l144 N (nI f) (nI (f + w)) z) _ _ (nI j) s = _
    have hj144 := hpt j
    unfold B_Mo_strip_l144
    rw [show nI (f + w) - nI f = nI w by rw [pk_sub (by omega), show f + w - f = w by omega], if_neg (nI_nlt (by omega) (by omega)), hnx]
    simp only [bnd1_s]
    rw [ixM, grd_t (inb_j (by omega) (by decide)), nI_add, p1]
    simp only [bnd2_s, letv, nI_1]
    rw [nI_clamp (by omega), hTs _ hj144, hleft, show (32 : Int32) * nI (pN W σ0 (f + j) (ptS R j)) = nI (32 * pN W σ0 (f + j) (ptS R j)) from pk_mul 32 _, pk_sub (by omega), show mS (bqS R n (j + 1)) + 32 * pN W σ0 (f + j) (ptS R j) - 32 * pN W σ0 (f + j) (ptS R j) = mS (bqS R n (j + 1)) by omega]) (by
    rintro z ⟨x, y, u, s⟩ ⟨h1, h2, h3, h4, h5⟩
    have hu : u = nI (w + 1) := h3
    have hy : y = _ := h2
    subst hu; subst hy
    refine ⟨(nI (ptS R w), s), ?_, rfl, h4⟩
    show B_Mo_strip_l144 N (nI f) (nI (f + w)) _ x _ (nI (w + 1)) s = _
    unfold B_Mo_strip_l144
    rw [show nI (f + w) - nI f = nI w by rw [pk_sub (by omega), show f + w - f = w by omega], if_pos (nI_lt (by omega) (by omega)), if_neg (by omega)]
    rfl) (by omega) ⟨rfl, rfl, rfl, F, rfl⟩
  obtain ⟨v1, v2⟩ := v
  refine ⟨r.2, ?_, v2⟩
  have : r = (nI (ptS R w), r.2) := by rw [← v1]
  rw [← this]
  exact p
end StripM
theorem sT_k (W : LW) {σ σ' : Mem} (h0 : mI σ' 19 8 = mI σ 19 8) (h1 : mI σ' 38 = mI σ 38) (h2 : mI σ' 39 = mI σ 39) (l : Nat) : ∀ d, sT W σ' l d = sT W σ l d := by
  have hr : ∀ h b, rT W σ' h b = rT W σ h b := fun h b => funext fun sq => by
    unfold rT pN
    rw [who_k h1 h2, prc_k W h0 h1 h2]
  intro d
  induction d with
  | zero => exact hr _ _
  | succ d ih =>
    show rT W σ' (l - (d + 1)) (fun sq => (bA (sT W σ' l d) sq 4).2) = rT W σ (l - (d + 1)) (fun sq => (bA (sT W σ l d) sq 4).2)
    rw [hr, ih]
theorem st_strip {N : Nat} (hN : 70000 ≤ N) : St_strip N := by
  intro σ a1 a2 a3 hI
  unfold f_Sh_strip f_Mo_strip
  rcases hours_casesM a1 a2 12 (by decide) with ⟨z1, z2⟩ | ⟨z1, z2, z3, z4, a, b, hab, hb, hd, rfl, rfl⟩
  · have z1 : f_Sh_areHours a1 a2 12 = some 0 := z1
    refine ⟨-3, σ, σ, ?_, ?_, hI⟩
    · rw [z1]
      simp only [bnd1_s, if_true]
      obtain ⟨y, hy⟩ : ∃ y, (bnd1 (if a3 = -1 then some 0 else if a3 = 30 then some 0 else if a3 < a1 then some 1 else if a2 ≤ a3 then some 1 else some 0 : Option Nat) fun t2b => if t2b = 0 then some (1 : Int32) else some 0) = some y := by
        by_cases c1 : a3 = -1
        · rw [if_pos c1]; exact ⟨_, rfl⟩
        · rw [if_neg c1]
          by_cases c2 : a3 = 30
          · rw [if_pos c2]; exact ⟨_, rfl⟩
          · rw [if_neg c2]
            by_cases c3 : a3 < a1
            · rw [if_pos c3]; exact ⟨_, rfl⟩
            · rw [if_neg c3]
              by_cases c4 : a2 ≤ a3
              · rw [if_pos c4]; exact ⟨_, rfl⟩
              · rw [if_neg c4]; exact ⟨_, rfl⟩
      rw [hy]
      rfl
    · rcases z2 with z2 | ⟨z2, z3⟩ | ⟨z2, z3, z4⟩
      · rw [z2]; rfl
      · rw [z2, z3]; rfl
      · rw [z2, z3]
        simp only [bnd1_s, if_neg ne10]
        rw [if_pos (show (12 : Int32) < a2 - a1 from z4)]
        rfl
  have z1 : f_Sh_areHours (nI a) (nI b) 12 = some 1 := z1
  rw [z1, z2]
  simp only [bnd1_s, if_neg ne10, z3, if_neg (show ¬ (12 : Int32) < nI b - nI a from z4)]
  obtain ⟨n, hn⟩ : ∃ n, n = b - a := ⟨_, rfl⟩
  have eb : b = a + n := by omega
  subst eb
  -- what is asked for
  have hask : ((bnd1 (if a3 = -1 then some 0 else if a3 = 30 then some 0 else if a3 < nI a then some 1 else if nI (a + n) ≤ a3 then some 1 else some 0 : Option Nat) fun t2b => if t2b = 0 then some (1 : Int32) else some 0) = some 0 ∧ (if a3 = -1 then some 1 else if a3 = 30 then some 1 else bnd1 (f_Mo_in a3 (nI a) (nI (a + n) - 1)) fun r43 => if r43 = 0 then some 0 else some 1 : Option Nat) = some 0) ∨ ((bnd1 (if a3 = -1 then some 0 else if a3 = 30 then some 0 else if a3 < nI a then some 1 else if nI (a + n) ≤ a3 then some 1 else some 0 : Option Nat) fun t2b => if t2b = 0 then some (1 : Int32) else some 0) = some 1 ∧ (if a3 = -1 then some 1 else if a3 = 30 then some 1 else bnd1 (f_Mo_in a3 (nI a) (nI (a + n) - 1)) fun r43 => if r43 = 0 then some 0 else some 1 : Option Nat) = some 1 ∧ (a3 = -1 ∨ (a3 ≠ -1 ∧ a3 = 30) ∨ (a3 ≠ -1 ∧ a3 ≠ 30 ∧ ∃ w, w < n ∧ a3 = nI (a + w)))) := by
    by_cases c1 : a3 = -1
    · rw [if_pos c1, if_pos c1]; exact Or.inr ⟨rfl, rfl, Or.inl c1⟩
    · rw [if_neg c1, if_neg c1]
      by_cases c2 : a3 = 30
      · rw [if_pos c2, if_pos c2]; exact Or.inr ⟨rfl, rfl, Or.inr (Or.inl ⟨c1, c2⟩)⟩
      · rw [if_neg c2, if_neg c2, show nI (a + n) - 1 = nI (a + n - 1) from pk_sub (b := 1) (by omega)]
        rcases in1_cases a3 a (a + n - 1) (by omega) (by omega) with h | ⟨h, j, hj1, hj2, rfl⟩
        · rw [h]
          refine Or.inl ⟨?_, rfl⟩
          rw [mo_in] at h
          by_cases c3 : a3 < nI a
          · rw [if_pos c3]; rfl
          · rw [if_neg c3] at h ⊢
            by_cases c4 : nI (a + n - 1) < a3
            · have := (le_succ (n := a + n - 1) (by omega) a3).mpr c4
              rw [show a + n - 1 + 1 = a + n by omega] at this
              rw [if_pos this]; rfl
            · rw [if_neg c4] at h
              exact absurd h (by decide)
        · rw [h, if_neg (nI_nlt hj1 (by omega)), if_neg (nI_ge (by omega) (by omega))]
          exact Or.inr ⟨rfl, rfl, Or.inr (Or.inr ⟨c1, c2, j - a, by omega, by rw [show a + (j - a) = j by omega]⟩)⟩
  rcases hask with ⟨k1, k2⟩ | ⟨k1, k2, k3⟩
  · refine ⟨-3, σ, σ, ?_, ?_, hI⟩
    · rw [k1]; rfl
    · rw [k2]; rfl
  obtain ⟨σ1, t1, I1, R1⟩ := today_ok hN hI
  obtain ⟨W, L1⟩ := I1.dayL R1
  rw [k1, t1]
  simp only [bnd1_s, if_neg ne10]
  obtain ⟨s2, p2, v2, w2, x2, F2⟩ := st_find (N := N) (W := W) (σ := σ1) (f := a) (n := n) (by omega) I1 R1 L1 (by omega) (by omega) (by omega)
  have I2 := I1.k (F2.keeps (by decide))
  have R2 := R1.k (F2.keeps (by decide))
  obtain ⟨σ3, p3, D3, I3, R3, F3⟩ := mo_laysDay hN I2 R2
  have F13 : Fr [8, 9, 42, 43, 84, 85, 86, 87, 88] [(41, 2), (41, 3), (65, 37)] σ1 σ3 := (F2.mono (by decide) (by decide)).c F3 (by decide) (by decide)
  have L3 := L1.k (F13.keeps (by decide))
  obtain ⟨s4, p4, v4, F4⟩ := mo_laysStrip (N := N) (W := W) (σ := σ3) (f := a) (n := n) (by omega) I3 R3 L3 D3 (by omega) (by omega) (by omega)
  have hsk := sT_k W (F13.I 19 8 (by decide) (by decide)) (F13.rowI 38 (by decide) (by decide)) (F13.rowI 39 (by decide) (by decide)) (a + n - 1)
  have v40 := v4 0 (by omega)
  rw [Nat.sub_zero] at v40
  have hbest := mo_stripBest (N := N) (σ := s4) (by omega) v40 (sT_ok W σ3 _ _ (by omega)) (nI a) a3
  have I4 := I3.k (F4.keeps (by decide))
  rw [hsk] at hbest
  have en : nI (a + n) - nI a = nI n := by rw [pk_sub (by omega), show a + n - a = n by omega]
  have hmo : ∀ X : Option (Int32 × Mem), (if nI (mS (mn (sT W σ1 (a + n - 1) (n - 1)) 144).1) < 1000000000 then (if a3 = -1 then some (nI (mS (mn (sT W σ1 (a + n - 1) (n - 1)) 144).1) / 32, s4) else if a3 = 30 then some (nI (mS (mn (sT W σ1 (a + n - 1) (n - 1)) 144).1) - nI (mS (mn (sT W σ1 (a + n - 1) (n - 1)) 144).1) / 32 * 32, s4) else L_Mo_strip_l144 N (nI a) a3 N (nI (mS (mn (sT W σ1 (a + n - 1) (n - 1)) 144).1)) (-1) 0 s4) else some (-2, s4)) = X → (bnd1 (if a3 = -1 then some 1 else if a3 = 30 then some 1 else bnd1 (f_Mo_in a3 (nI a) (nI (a + n) - 1)) fun r43 => if r43 = 0 then some 0 else some 1 : Option Nat) fun t4b => if t4b = 0 then some (-3, s2) else bnd1 (f_Mo_laysDay N s2) fun σ53 => letv (nI (a + n) - nI a) fun v59 => bnd1 (f_Mo_laysStrip N σ53 (nI a) v59) fun σ65 => bnd1 (L_Mo_strip_l76 N (nI a) a3 σ65 N 1000000000 0) fun z76_5 => if z76_5 < 1000000000 then (if a3 = -1 then some (z76_5 / 32, σ65) else if a3 = 30 then some (z76_5 - z76_5 / 32 * 32, σ65) else L_Mo_strip_l144 N (nI a) a3 N z76_5 (-1) 0 σ65) else some (-2, σ65)) = X := fun X h => by
    rw [k2]
    simp only [bnd1_s, if_neg (show ¬ (1 = 0) by decide)]
    rw [p3]
    simp only [bnd1_s, letv]
    rw [en, p4]
    simp only [bnd1_s]
    rw [hbest]
    simp only [bnd1_s]
    exact h
  obtain ⟨hm1, -, -⟩ := mn_ok (T := sT W σ1 (a + n - 1) (n - 1)) 144
  rw [p2]
  simp only [bnd2_s]
  generalize hCe : (mn (sT W σ1 (a + n - 1) (n - 1)) 144).1 = C at *
  by_cases c : C < 268435456
  · rw [if_neg (show ¬ 268435456 ≤ C by omega), if_neg ne10]
    obtain ⟨l1, l2⟩ := mS_lt c
    have hlt : nI (mS C) < 1000000000 := nI_lt (b := 1000000000) l1 (by decide)
    rcases k3 with k3 | ⟨k3, k4⟩ | ⟨k3, k4, w, hw, k5⟩
    · refine ⟨nI (C / 16), s2, s4, ?_, hmo _ ?_, I4⟩
      · unfold f_St_prices
        rw [if_pos k3, v2, show nI C / 16 = nI (C / 16) from pk_div (d := 16) (by omega) (by decide) (by decide)]
        rfl
      · rw [if_pos hlt, if_pos k3, show nI (mS C) / 32 = nI (mS C / 32) from pk_div (d := 32) (by omega) (by decide) (by decide), show mS C / 32 = C / 16 by omega]
    · refine ⟨nI (C % 16), s2, s4, ?_, hmo _ ?_, I4⟩
      · unfold f_St_moves
        rw [if_neg k3, if_pos k4, v2, show nI C - nI C / 16 * 16 = nI (C % 16) from pk_rem (d := 16) (by omega) (by decide) (by decide)]
        rfl
      · rw [if_pos hlt, if_neg k3, if_pos k4, show nI (mS C) - nI (mS C) / 32 * 32 = nI (mS C % 32) from pk_rem (d := 32) (by omega) (by decide) (by decide), show mS C % 32 = C % 16 by omega]
    · obtain ⟨s5, p5, F5⟩ := mo_path (N := N) (W := W) (σ := s4) (σ0 := σ3) (f := a) (n := n) (w := w) (by omega) I3 R3 L3 D3 (by omega) (by omega) (by omega) hw F4 v4 (by rw [hsk, hCe]; exact c)
      simp only [hsk] at p5
      rw [hCe] at p5
      refine ⟨nI (ptS (fun r => sT W σ1 (a + n - 1) (n - 1 - r)) w), s2, s5, ?_, hmo _ ?_, I3.k (F5.keeps (by decide))⟩
      · unfold f_St_squareIn
        simp only [letv]
        rw [if_neg k3, if_neg k4, w2, k5, show nI (a + w) - nI a = nI w by rw [pk_sub (by omega), show a + w - a = w by omega], if_neg (nI_pos (by omega)), if_neg (show ¬ (12 : Int32) ≤ nI w from nI_ge (b := 12) (by omega) (by decide)), grd_t (inb_j (by omega) (by decide)), nI_clamp (by omega), x2 c w hw]
        rfl
      · rw [if_pos hlt, if_neg k3, if_neg k4, k5]
        exact p5
  · have ec : C = 268435456 := by omega
    rw [if_pos (show 268435456 ≤ C by omega), if_pos rfl]
    refine ⟨-2, s2, s4, rfl, hmo _ ?_, I4⟩
    rw [ec, mS_inf, if_neg (by decide)]
