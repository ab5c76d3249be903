-- ===== the reference's reader: numbers, factors, terms, sums =====
def PS (cd : Nat → Int32) (s c : Nat) (P : List Nat) (h : Nat) (g : DN) : Prop := ∀ cd' : Nat → Int32, (∀ j, s ≤ j → j < c → cd' j = cd j) → CD cd' c P → SemX DM cd' s (c + P.length) h g
theorem PS.nil {cd : Nat → Int32} {s c h : Nat} {g : DN} (H : SemX DM cd s c h g) : PS cd s c [] h g := fun _ hk _ => H.k hk
theorem PS.k {cd cd2 : Nat → Int32} {s c h : Nat} {P : List Nat} {g : DN} (H : PS cd s c P h g) (hk : ∀ j, s ≤ j → j < c → cd2 j = cd j) : PS cd2 s c P h g := fun cd' h1 h2 => H cd' (fun j a b => (h1 j a b).trans (hk j a b)) h2
theorem PS.up {cd : Nat → Int32} {s c h h' : Nat} {P : List Nat} {g : DN} (H : PS cd s c P h g) (hk : h ≤ h') : PS cd s c P h' g := fun cd' h1 h2 => (H cd' h1 h2).up hk
def FacT (N : Nat) (σ0_ : Mem) : Option (Int32 × Mem) :=
  bnd1 (f_Mo_isDigit σ0_) fun r21 =>
  if r21 = 0 then
    (bnd1 (f_Mo_here σ0_) fun r48 =>
    bnd1 (f_Mo_factOf r48) fun r51 =>
    if r51 = (-1) then
      (bnd2 (f_Mo_wrongAt σ0_ 1 (mI σ0_ 65 12)) fun r66 σ66 =>
      grd (decide (r66 &&& 1 = r66)) (some (r66, σ66)))
    else
      (bnd1 (f_Mo_notes σ0_ 1 r51) fun σ73 =>
      letv (sI σ73 65 12 ((mI σ73 65 12) + 1)) fun σ83 =>
      some (1, σ83)))
  else
    (bnd2 (f_Mo_readsNumber N σ0_) fun r28 σ28 =>
    if r28 = 0 then
      (some (0, σ28))
    else
      (bnd1 (f_Mo_notes σ28 0 (mI σ28 65 19)) fun σ42 =>
      some (1, σ42)))
def FacK (N k : Nat) (σ : Mem) : Option (Int32 × Mem) := bnd1 (L_Mo_readsFactor_l0 N k σ) fun x0_ => sm x0_ (fun r0_ => some r0_) fun σ0_ => FacT N σ0_
def SumT (N : Nat) (a : Int32) (x : (Int32 × Mem) ⊕ Mem) : Option (Int32 × Mem) := sm x (fun r14_ => some r14_) fun σ14_ =>
    bnd1 (f_Mo_hasOpenSum N σ14_ a) fun r140 =>
    if r140 = 0 then
      (bnd1 (f_Mo_closesSums N σ14_ 1) fun σ158 =>
      some (1, σ158))
    else
      (bnd2 (f_Mo_wrongAt σ14_ 1 (mI σ14_ 65 12)) fun r152 σ152 =>
      grd (decide (r152 &&& 1 = r152)) (some (r152, σ152)))
def MLT (N k : Nat) (a : Int32) (σ : Mem) : Option (Int32 × Mem) := bnd1 (L_Mo_readsSum_l14 N a k σ) (SumT N a)
def MFT (N kf ks : Nat) (a : Int32) (σ : Mem) : Option (Int32 × Mem) := bnd2 (FacK N kf σ) fun r6 σ6 => if r6 = 0 then some (0, σ6) else MLT N ks a σ6
theorem readsFactor_e (N : Nat) (σ : Mem) : f_Mo_readsFactor N σ = FacK N N σ := rfl
theorem readsSum_e (N : Nat) (σ : Mem) : f_Mo_readsSum N σ = MFT N N N (mI σ 65 17) σ := rfl
theorem mft_open {N k ks : Nat} {a : Int32} {σ σ1 : Mem} (h : f_Mo_here σ = some 91) (e : f_Mo_opens σ 14 = some (1, σ1)) : MFT N (k + 1) ks a σ = MFT N k ks a σ1 := by
  have : L_Mo_readsFactor_l0 N (k + 1) σ = L_Mo_readsFactor_l0 N k σ1 := by
    show B_Mo_readsFactor_l0 N _ σ = _
    unfold B_Mo_readsFactor_l0
    rw [h]
    simp only [bnd1_n, if_true]
    rw [e]
    simp only [bnd2_n, if_neg ne10]
  unfold MFT FacK
  rw [this]
theorem mft_deep {N k ks : Nat} {a : Int32} {σ σ1 : Mem} (h : f_Mo_here σ = some 91) (e : f_Mo_opens σ 14 = some (0, σ1)) : MFT N (k + 1) ks a σ = some (0, σ1) := by
  have : L_Mo_readsFactor_l0 N (k + 1) σ = some (.inl (0, σ1)) := by
    show B_Mo_readsFactor_l0 N _ σ = _
    unfold B_Mo_readsFactor_l0
    rw [h]
    simp only [bnd1_n, if_true]
    rw [e]
    simp only [bnd2_n, if_true]
  unfold MFT FacK
  rw [this]
  rfl
theorem mft_base {N k ks : Nat} {a ch : Int32} {σ : Mem} (h : f_Mo_here σ = some ch) (hc : ch ≠ 91) : MFT N (k + 1) ks a σ = bnd2 (FacT N σ) fun r6 σ6 => if r6 = 0 then some (0, σ6) else MLT N ks a σ6 := by
  have : L_Mo_readsFactor_l0 N (k + 1) σ = some (.inr σ) := by
    show B_Mo_readsFactor_l0 N _ σ = _
    unfold B_Mo_readsFactor_l0
    rw [h]
    simp only [bnd1_n, if_neg hc]
  unfold MFT FacK
  rw [this]
  rfl
theorem bnd_sum {X : Option (Int32 × Mem)} {N k : Nat} {a : Int32} : bnd1 (bnd2 X fun r75 σ75 => if r75 = 0 then (some (.inl (0, σ75))) else L_Mo_readsSum_l14 N a k σ75) (SumT N a) = bnd2 X fun r6 σ6 => if r6 = 0 then some (0, σ6) else MLT N k a σ6 := by
  cases X with
  | none => rfl
  | some z =>
    obtain ⟨r, s⟩ := z
    simp only [bnd2_n]
    by_cases q : r = 0
    · rw [if_pos q, if_pos q]
      rfl
    · rw [if_neg q, if_neg q]
      rfl
theorem mlt_op {N k o w : Nat} {a ch y : Int32} {σ σ1 σ2 σ3 : Mem} (h : f_Mo_here σ = some ch) (sg : f_Mo_sumSign ch = some (nI o)) (h2 : 2 ≤ o) (h6 : o ≤ 6) (hy : (4 ≤ o ∧ y = 0) ∨ (o < 4 ∧ y = 1)) (cl : f_Mo_closesSums N σ y = some σ1) (hl : mI σ1 65 17 = nI w) (hw : w < 260) (e2 : sI (sI σ1 74 w (1048576 * nI o)) 65 17 (nI w + 1) = σ2) (e3 : sI σ2 65 12 (mI σ2 65 12 + 1) = σ3) : MLT N (k + 1) a σ = MFT N N k a σ3 := by
  have hB : L_Mo_readsSum_l14 N a (k + 1) σ = bnd2 (f_Mo_readsFactor N σ3) fun r75 σ75 => if r75 = 0 then (some (.inl (0, σ75))) else L_Mo_readsSum_l14 N a k σ75 := by
    show B_Mo_readsSum_l14 N a _ σ = _
    unfold B_Mo_readsSum_l14
    rw [h]
    simp only [bnd1_n]
    rw [sg]
    simp only [bnd1_n]
    have n1 : ¬ nI o = -1 := by rcases (show o = 2 ∨ o = 3 ∨ o = 4 ∨ o = 5 ∨ o = 6 by omega) with rfl | rfl | rfl | rfl | rfl <;> decide
    have hE : ((if (4 : Int32) ≤ nI o then some 0 else some 1) : Option Int32) = some y := by
      rcases hy with ⟨q1, q2⟩ | ⟨q1, q2⟩
      · rw [if_pos (show (4 : Int32) ≤ nI o from nI_le (a := 4) q1 (by omega)), q2]
      · rw [if_neg (show ¬ (4 : Int32) ≤ nI o from nI_ge (b := 4) q1 (by decide)), q2]
    rw [if_neg n1, hE]
    simp only [bnd1_n]
    rw [cl]
    simp only [bnd1_n]
    rw [hl, grd_t (inb_j hw (by decide)), letv_n, nI_clamp (by omega), mI_sIn _ _ _ (by decide), hl, letv_n, e2, letv_n, e3]
  unfold MLT
  rw [hB]
  exact bnd_sum
theorem mlt_end {N k : Nat} {a ch : Int32} {σ : Mem} (h : f_Mo_here σ = some ch) (sg : f_Mo_sumSign ch = some (-1)) (hc : ch ≠ 93 ∨ f_Mo_hasOpenSum N σ a = some 0) : MLT N (k + 1) a σ = SumT N a (.inr σ) := by
  have hB : L_Mo_readsSum_l14 N a (k + 1) σ = some (.inr σ) := by
    show B_Mo_readsSum_l14 N a _ σ = _
    unfold B_Mo_readsSum_l14
    rw [h]
    simp only [bnd1_n]
    rw [sg]
    simp only [bnd1_n, if_true]
    by_cases q : ch = 93
    · rcases hc with z | z
      · exact absurd q z
      · rw [if_pos q, z]
        simp only [bnd1_n, if_true]
    · rw [if_neg q]
  unfold MLT
  rw [hB]
  simp only [bnd1_n]
theorem mlt_shut {N k : Nat} {a : Int32} {σ σ1 σ2 σ3 σ4 : Mem} (h : f_Mo_here σ = some 93) (ho : f_Mo_hasOpenSum N σ a = some 1) (cl : f_Mo_closesSums N σ 1 = some σ1) (e2 : sI σ1 65 17 (mI σ1 65 17 - 1) = σ2) (e3 : sI σ2 65 15 (mI σ2 65 15 - 1) = σ3) (e4 : sI σ3 65 12 (mI σ3 65 12 + 1) = σ4) : MLT N (k + 1) a σ = MLT N k a σ4 := by
  have hB : L_Mo_readsSum_l14 N a (k + 1) σ = L_Mo_readsSum_l14 N a k σ4 := by
    show B_Mo_readsSum_l14 N a _ σ = _
    unfold B_Mo_readsSum_l14
    rw [h]
    simp only [bnd1_n]
    rw [show f_Mo_sumSign 93 = some (-1) by decide]
    simp only [bnd1_n, if_true]
    rw [ho]
    simp only [bnd1_n, if_neg ne10]
    rw [cl]
    simp only [bnd1_n]
    rw [letv_n, e2, letv_n, e3, letv_n, e4]
  unfold MLT
  rw [hB]
-- signs
theorem sg_md {c : Int32} (h : isMd c) : ∃ o, 4 ≤ o ∧ o ≤ 6 ∧ f_Mo_sumSign c = some (nI o) ∧ chr o = c := by
  rcases h with rfl | rfl | rfl
  · exact ⟨4, by decide, by decide, by decide, by decide⟩
  · exact ⟨5, by decide, by decide, by decide, by decide⟩
  · exact ⟨6, by decide, by decide, by decide, by decide⟩
theorem sg_pm {c : Int32} (h : isPm c) : ∃ o, 2 ≤ o ∧ o ≤ 3 ∧ f_Mo_sumSign c = some (nI o) ∧ chr o = c := by
  rcases h with rfl | rfl
  · exact ⟨2, by decide, by decide, by decide, by decide⟩
  · exact ⟨3, by decide, by decide, by decide, by decide⟩
theorem sg_no {c : Int32} (h1 : ¬ isMd c) (h2 : ¬ isPm c) : f_Mo_sumSign c = some (-1) := by
  unfold f_Mo_sumSign
  rw [if_neg (fun z => h2 (Or.inl z)), if_neg (fun z => h2 (Or.inr z)), if_neg (fun z => h1 (Or.inl z)), if_neg (fun z => h1 (Or.inr (Or.inl z))), if_neg (fun z => h1 (Or.inr (Or.inr z)))]
theorem fact_of (c : Int32) : f_Mo_factOf c = some (if lix c < 9 then nI (lix c) else -1) := by
  unfold f_Mo_factOf
  by_cases z0 : c = 116
  · rw [z0]; decide
  by_cases z1 : c = 109
  · rw [z1]; decide
  by_cases z2 : c = 120
  · rw [z2]; decide
  by_cases z3 : c = 121
  · rw [z3]; decide
  by_cases z4 : c = 115
  · rw [z4]; decide
  by_cases z5 : c = 105
  · rw [z5]; decide
  by_cases z6 : c = 100
  · rw [z6]; decide
  by_cases z7 : c = 104
  · rw [z7]; decide
  by_cases z8 : c = 111
  · rw [z8]; decide
  have hl : lix c = 9 := by unfold lix; simp only [if_neg z0, if_neg z1, if_neg z2, if_neg z3, if_neg z4, if_neg z5, if_neg z6, if_neg z7, if_neg z8]
  rw [hl]
  simp only [if_neg z0, if_neg z1, if_neg z2, if_neg z3, if_neg z4, if_neg z5, if_neg z6, if_neg z7, if_neg z8]
  rfl
-- numbers
theorem dval_nat {n : Nat} {tx : Nat → Int32} (hT : TX n tx) {p : Nat} : ∀ m, (∀ j, j < m → dig (tx (p + j))) → ∃ v, v < 10 ^ m ∧ dval tx p m = nI v := by
  intro m
  induction m with
  | zero => intro _; exact ⟨0, by decide, rfl⟩
  | succ m ih =>
    intro h
    obtain ⟨v, h1, h2⟩ := ih (fun j hj => h j (by omega))
    have hd := h m (by omega)
    rcases hT.cs (p + m) with e | ⟨b, hb, e⟩
    · exact absurd e (dig_ne hd).1
    · rw [e] at hd
      have h48 : 48 ≤ b := Nat.not_lt.mp fun z => hd.1 (nI_lt (b := 48) z (by decide))
      have h57 : b ≤ 57 := Nat.not_lt.mp fun z => hd.2 (nI_lt (a := 57) z (by omega))
      refine ⟨10 * v + (b - 48), by rw [Nat.pow_succ]; omega, ?_⟩
      show 10 * dval tx p m + tx (p + m) - 48 = _
      rw [h2, e, show (10 : Int32) * nI v = nI (10 * v) from pk_mul 10 v, nI_add, show 10 * v + b = (10 * v + (b - 48)) + 48 by omega, ← nI_add]
      exact Int32.add_sub_cancel _ _
theorem MS.val {n : Nat} {tx : Nat → Int32} {σ : Mem} {W : List (Nat × Nat)} {d p c : Nat} (h : MS n tx σ W d p c) (v : Int32) : MS n tx (sI σ 65 19 v) W d p c := by
  obtain ⟨h1, h2, h3, h4, h5, h6, h7, h8⟩ := h
  refine ⟨?_, ?_, fun j hj => ?_, ?_, ?_, ?_, ?_, h8⟩
  · rw [sI_n _ _ (by omega)]; exact h1
  · rw [sI_n _ _ (by omega)]; exact h2
  · rw [mI_sIn _ _ _ (by decide)]; exact h3 j hj
  · rw [sI_n _ _ (by omega)]; exact h4
  · rw [sI_n _ _ (by omega)]; exact h5
  · rw [sI_n _ _ (by omega)]; exact h6
  · rw [mI_sIn _ _ _ (by decide)]; exact h7
theorem mo_dstep {N k n : Nat} {tx : Nat → Int32} (hT : TX n tx) {σ : Mem} {W : List (Nat × Nat)} {d p0 i c : Nat} (hi : i < 5) (h : MS n tx σ W d (p0 + i) c) (hd : dig (tx (p0 + i))) (hv : mI σ 65 19 = dval tx p0 i) : ∃ σ', L_Mo_readsNumber_l10 N (nI p0) (k + 1) σ = L_Mo_readsNumber_l10 N (nI p0) k σ' ∧ MS n tx σ' W d (p0 + i + 1) c ∧ mI σ' 65 19 = dval tx p0 (i + 1) ∧ mI σ' 73 = mI σ 73 := by
  have hp := hT.lt (dig_ne hd).1
  have hn := hT.1
  obtain ⟨σ2, b1, b2, b3⟩ := (h.val (10 * mI σ 65 19 + tx (p0 + i) - 48)).adv hp
  refine ⟨σ2, ?_, b2, ?_, ?_⟩
  · show B_Mo_readsNumber_l10 N _ _ σ = _
    unfold B_Mo_readsNumber_l10
    rcases mo_isDigit hT h with ⟨a1, a2⟩ | ⟨a1, a2⟩
    · rw [a1]
      simp only [bnd1_n, if_neg ne10]
      rw [h.1, show nI p0 + 5 = nI (p0 + 5) from nI_add p0 5, if_neg (fun z => by have := (nI_eq (by omega) (by omega)).mp z; omega), mo_here hT h]
      simp only [bnd1_n]
      rw [letv_n, letv_n, b1]
    · exact absurd hd a2
  · rw [← b1, sI_n _ _ (by omega), sI_s, hv]
    rfl
  · rw [b3, mI_sIn _ _ _ (by decide)]
theorem mo_digits {N n : Nat} {tx : Nat → Int32} (hT : TX n tx) {W : List (Nat × Nat)} {d p0 m c : Nat} (hm : m ≤ 5) (hd : ∀ j, j < m → dig (tx (p0 + j))) (hno : ¬ dig (tx (p0 + m))) : ∀ (r i k : Nat) (σ : Mem), i + r = m → r < k → MS n tx σ W d (p0 + i) c → mI σ 65 19 = dval tx p0 i → ∃ σ', L_Mo_readsNumber_l10 N (nI p0) k σ = some (1, σ') ∧ MS n tx σ' W d (p0 + m) c ∧ mI σ' 65 19 = dval tx p0 m ∧ mI σ' 73 = mI σ 73 := by
  intro r
  induction r with
  | zero =>
    intro i k σ e hk h hv
    obtain ⟨k, rfl⟩ : ∃ z, k = z + 1 := ⟨k - 1, by omega⟩
    have e : i = m := by omega
    subst e
    refine ⟨σ, ?_, h, hv, rfl⟩
    show B_Mo_readsNumber_l10 N _ _ σ = _
    unfold B_Mo_readsNumber_l10
    rcases mo_isDigit hT h with ⟨a1, a2⟩ | ⟨a1, a2⟩
    · exact absurd a2 hno
    · rw [a1]
      simp only [bnd1_n, if_true]
  | succ r ih =>
    intro i k σ e hk h hv
    obtain ⟨k, rfl⟩ : ∃ z, k = z + 1 := ⟨k - 1, by omega⟩
    obtain ⟨σ1, a1, a2, a3, a4⟩ := mo_dstep (N := N) (k := k) hT (by omega) h (hd i (by omega)) hv
    obtain ⟨σ2, b1, b2, b3, b4⟩ := ih (i + 1) k σ1 (by omega) (by omega) a2 a3
    exact ⟨σ2, a1.trans b1, b2, b3, b4.trans a4⟩
theorem mo_six_digits {N n : Nat} {tx : Nat → Int32} (hT : TX n tx) {W : List (Nat × Nat)} {d p0 c : Nat} (hd : ∀ j, j < 6 → dig (tx (p0 + j))) : ∀ (r i k : Nat) (σ : Mem), i + r = 5 → r < k → MS n tx σ W d (p0 + i) c → mI σ 65 19 = dval tx p0 i → ∃ σ', L_Mo_readsNumber_l10 N (nI p0) k σ = some (0, σ') ∧ mI σ' 65 14 = (-1000) * nI 2 - nI (p0 + 5) := by
  intro r
  induction r with
  | zero =>
    intro i k σ e hk h hv
    obtain ⟨k, rfl⟩ : ∃ z, k = z + 1 := ⟨k - 1, by omega⟩
    have e : i = 5 := by omega
    subst e
    obtain ⟨σ', w1, w2⟩ := mo_wr h.1 2 2 rfl
    refine ⟨σ', ?_, w2⟩
    show B_Mo_readsNumber_l10 N _ _ σ = _
    unfold B_Mo_readsNumber_l10
    rcases mo_isDigit hT h with ⟨a1, a2⟩ | ⟨a1, a2⟩
    · rw [a1]
      simp only [bnd1_n, if_neg ne10]
      rw [if_pos (show mI σ 65 12 = nI p0 + 5 from h.1.trans (nI_add p0 5).symm)]
      exact w1
    · exact absurd (hd 5 (by decide)) a2
  | succ r ih =>
    intro i k σ e hk h hv
    obtain ⟨k, rfl⟩ : ∃ z, k = z + 1 := ⟨k - 1, by omega⟩
    obtain ⟨σ1, a1, a2, a3, a4⟩ := mo_dstep (N := N) (k := k) hT (by omega) h (hd i (by omega)) hv
    obtain ⟨σ2, b1, b2⟩ := ih (i + 1) k σ1 (by omega) (by omega) a2 a3
    exact ⟨σ2, a1.trans b1, b2⟩
-- ===== what the reference does over what the grammar reads =====
def EOut (N n : Nat) (tx : Nat → Int32) (R : Option (Int32 × Mem)) (σ : Mem) (s : Nat) (W : List (Nat × Nat)) (d p x base lo t : Nat) (o : Out) : Prop := match o with
  | .inl (k, q) => ∃ σ', R = some (0, σ') ∧ mI σ' 65 14 = (-1000) * nI k - nI q
  | .inr (q, g) => ∃ (ks : Nat) (σ' : Mem) (c : Nat) (P : List Nat), R = MLT N ks (nI base) σ' ∧ n - q < ks ∧ MS n tx σ' (pw P ++ W) d q c ∧ (∀ o, o ∈ P → lo ≤ o ∧ o ≤ 6) ∧ c + P.length + x ≤ q ∧ W.length + P.length ≤ q ∧ p ≤ q ∧ s ≤ c ∧ (∀ j, j < s → mI σ' 73 j = mI σ 73 j) ∧ PS (mI σ' 73) s c P (hh t d) g ∧ (lo ≤ 4 → ¬ isMd (tx q)) ∧ (lo ≤ 2 → ¬ isPm (tx q))
theorem EOut.mono {N n : Nat} {tx : Nat → Int32} {R R0 : Option (Int32 × Mem)} {σ σ1 : Mem} {s : Nat} {W : List (Nat × Nat)} {d p p1 x base lo t : Nat} {o : Out} (h : EOut N n tx R σ1 s W d p1 x base lo t o) (e : R0 = R) (hp : p ≤ p1) (hk : ∀ j, j < s → mI σ1 73 j = mI σ 73 j) : EOut N n tx R0 σ s W d p x base lo t o := by
  match o, h with
  | .inl (k, q), h => obtain ⟨σ', a1, a2⟩ := h; exact ⟨σ', e.trans a1, a2⟩
  | .inr (q, g), h =>
    obtain ⟨ks, σ', c, P, a1, a2, a3, a4, a5, a6, a7, a8, a9, b1, b2, b3⟩ := h
    exact ⟨ks, σ', c, P, e.trans a1, a2, a3, a4, a5, a6, by omega, a8, fun j hj => (a9 j hj).trans (hk j hj), b1, b2, b3⟩
def EIn (n : Nat) (tx : Nat → Int32) (σ : Mem) (W : List (Nat × Nat)) (d p c x base : Nat) : Prop := MS n tx σ W d p c ∧ base ≤ W.length ∧ c + x ≤ p ∧ W.length ≤ p ∧ d ≤ 6
def SimFac (N n : Nat) (tx : Nat → Int32) (d p : Nat) (o : Out) : Prop := ∀ (σ : Mem) (W : List (Nat × Nat)) (c x base kf ks : Nat), EIn n tx σ W d p c x base → n - p < kf → n - p < ks → EOut N n tx (MFT N kf ks (nI base) σ) σ c W d p x base 7 5 o
def SimTer (N n : Nat) (tx : Nat → Int32) (d p : Nat) (o : Out) : Prop := ∀ (σ : Mem) (W : List (Nat × Nat)) (c x base kf ks : Nat), EIn n tx σ W d p c x base → ¬ clo 0 (tpI W) → n - p < kf → n - p < ks → EOut N n tx (MFT N kf ks (nI base) σ) σ c W d p x base 4 4 o
def SimSum (N n : Nat) (tx : Nat → Int32) (d p : Nat) (o : Out) : Prop := ∀ (σ : Mem) (W : List (Nat × Nat)) (c x base kf ks : Nat), EIn n tx σ W d p c x base → ¬ clo 1 (tpI W) → n - p < kf → n - p < ks → EOut N n tx (MFT N kf ks (nI base) σ) σ c W d p x base 2 3 o
def SimTl (N n : Nat) (tx : Nat → Int32) (g : DN) (d p : Nat) (o : Out) : Prop := ∀ (σ : Mem) (W : List (Nat × Nat)) (c s x base ks : Nat) (P : List Nat), MS n tx σ (pw P ++ W) d p c → base ≤ W.length → (∀ o, o ∈ P → 4 ≤ o ∧ o ≤ 6) → c + P.length + x ≤ p → W.length + P.length ≤ p → d ≤ 6 → s ≤ c → PS (mI σ 73) s c P (hh 4 d) g → ¬ clo 0 (tpI W) → n - p < ks → EOut N n tx (MLT N ks (nI base) σ) σ s W d p x base 4 4 o
def SimSl (N n : Nat) (tx : Nat → Int32) (g : DN) (d p : Nat) (o : Out) : Prop := ∀ (σ : Mem) (W : List (Nat × Nat)) (c s x base ks : Nat) (P : List Nat), MS n tx σ (pw P ++ W) d p c → base ≤ W.length → (∀ o, o ∈ P → 2 ≤ o ∧ o ≤ 6) → c + P.length + x ≤ p → W.length + P.length ≤ p → d ≤ 6 → s ≤ c → PS (mI σ 73) s c P (hh 3 d) g → ¬ clo 1 (tpI W) → ¬ isMd (tx p) → n - p < ks → EOut N n tx (MLT N ks (nI base) σ) σ s W d p x base 2 3 o
theorem clo_md {a : Int32} {o : Nat} (h : 4 ≤ o ∧ o ≤ 6) : clo a (nI o) := Or.inl ⟨nI_nlt (b := 4) h.1 (by omega), nI_le (b := 6) h.2 (by decide)⟩
theorem clo_sg {o : Nat} (h : 2 ≤ o ∧ o ≤ 6) : clo 1 (nI o) := by
  rcases (show o = 2 ∨ o = 3 ∨ o = 4 ∨ o = 5 ∨ o = 6 by omega) with rfl | rfl | rfl | rfl | rfl <;> decide
theorem nclo_pm {o : Nat} (h : 2 ≤ o ∧ o ≤ 3) : ¬ clo 0 (nI o) := by
  rcases (show o = 2 ∨ o = 3 by omega) with rfl | rfl <;> decide
theorem nclo_of {W : List (Nat × Nat)} (h : ¬ clo 1 (tpI W)) : ¬ clo 0 (tpI W) := fun z => by
  rcases z with z | z
  · exact h (Or.inl z)
  · exact absurd rfl z.1
theorem P_nil {P : List Nat} (h : ∀ o, o ∈ P → 7 ≤ o ∧ o ≤ 6) : P = [] := by
  cases P with
  | nil => rfl
  | cons a r => have := h a List.mem_cons_self; omega
/-- an operation of the reference, closed -/
theorem sem_mop {cd : Nat → Int32} {s m k h h' H o : Nat} {a b : DN} (Ha : SemX DM cd s m h a) (Hb : SemX DM cd m k h' b) (h1 : h ≤ H) (h2 : h' + 1 ≤ H) (h3 : 2 ≤ h') (sm : s ≤ m) (mk : m ≤ k) (hk : k < 250) (ho : 2 ≤ o) (h9 : o ≤ 9) (e : cd k = nI (1048576 * o + 0)) : SemX DM cd s (k + 1) H (binD (chr o) a b) := sem_bin Ha Hb h1 h2 h3 sm mk (Nat.lt_succ_self k) (fun cd' hcd => ⟨hk, rfl, Or.inr (Or.inr (Or.inl ⟨rfl, o, ho, h9, rfl, (hcd k (Nat.le_refl _) (Nat.lt_succ_self k)).trans e⟩))⟩)
