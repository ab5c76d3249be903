-- ===== the reference's reader: jumps that land =====
theorem lands_stop {N k n : Nat} {tx : Nat → Int32} {σ : Mem} {W : List (Nat × Nat)} {d p c : Nat} {a : Int32} (h : MS n tx σ W d p c) (hW : W.length ≤ 260) (h1 : tpI W ≠ 11) (h2 : a = 0 ∨ tpI W ≠ 12) : L_Mo_lands_l0 N a (k + 1) σ = some σ := by
  show B_Mo_lands_l0 N a _ σ = _
  unfold B_Mo_lands_l0
  rw [mo_top h hW]
  simp only [bnd1_n]
  rw [if_neg h1]
  by_cases a0 : a = 0
  · rw [if_pos a0]
    simp only [bnd1_n, if_neg (show ¬ (1 = 0) by decide)]
  · rcases h2 with z | z
    · exact absurd z a0
    · rw [if_neg a0, if_neg z]
      simp only [bnd1_n, if_neg (show ¬ (1 = 0) by decide)]
theorem lands_go {N k n : Nat} {tx : Nat → Int32} {σ : Mem} {W : List (Nat × Nat)} {d p c o f : Nat} {a : Int32} (h : MS n tx σ ((o, f) :: W) d p c) (hW : W.length < 260) (ho : o = 11 ∨ (o = 12 ∧ ¬ a = 0)) (hf : f < 260) (hc : c < 260) (he : mI σ 73 f = nI (1048576 * o + 0)) : ∃ σ2, L_Mo_lands_l0 N a (k + 1) σ = L_Mo_lands_l0 N a k σ2 ∧ MS n tx σ2 W d p c ∧ mI σ2 73 = up1 (mI σ 73) f (nI (1048576 * o + c)) := by
  have ho16 : o < 16 := by rcases ho with z | z <;> omega
  have h' := h
  obtain ⟨h1, h2, h3, h4, h5, h6, h7, h8⟩ := h
  rw [List.length_cons] at h6
  have hM : MS n tx (sI σ 73 f (nI (1048576 * o + c))) ((o, f) :: W) d p c := by
    refine ⟨?_, ?_, fun j hj => ?_, ?_, ?_, ?_, ?_, h8⟩
    · rw [mI_sIn _ _ _ (by decide)]; exact h1
    · rw [mI_sIn _ _ _ (by decide)]; exact h2
    · rw [mI_sIn _ _ _ (by decide)]; exact h3 j hj
    · rw [mI_sIn _ _ _ (by decide)]; exact h4
    · rw [mI_sIn _ _ _ (by decide)]; exact h5
    · rw [mI_sIn _ _ _ (by decide), List.length_cons]; exact h6
    · rw [mI_sIn _ _ _ (by decide)]; exact h7
  obtain ⟨σ2, b1, b2, b3⟩ := hM.pop
  refine ⟨σ2, ?_, b2, by rw [b3, mI_sI]⟩
  show B_Mo_lands_l0 N a _ σ = _
  unfold B_Mo_lands_l0
  rw [mo_top h' (by rw [List.length_cons]; omega)]
  simp only [bnd1_n]
  have hE : ((if tpI ((o, f) :: W) = 11 then some 0 else if a = 0 then some 1 else if tpI ((o, f) :: W) = 12 then some 0 else some 1) : Option Nat) = some 0 := by
    rcases ho with z | ⟨z, z2⟩
    · rw [if_pos (by rw [z]; rfl)]
    · rw [if_neg (by rw [z]; show ¬ nI 12 = 11; decide), if_neg z2, if_pos (by rw [z]; rfl)]
  rw [hE]
  simp only [bnd1_n, if_true]
  have e0 : mI σ 74 W.length = nI (1048576 * o + f) := h7.1
  rw [h6, nI_pred, grd_t (inb_j hW (by decide)), letv_n, nI_clamp (by omega), e0, un_r ho16 (by omega), grd_t (inb_j hf (by decide)), grd_t (inb_j hf (by decide)), letv_n, nI_clamp (by omega), he, un_q ho16 (by decide), h5]
  have ev : (1048576 : Int32) * nI o + nI c = nI (1048576 * o + c) := by rw [← nI_add, ← pk_mul]; rfl
  rw [ev, letv_n, b1]
/-- jumps that wait, the later ones on top -/
def JQ (a : Int32) (f : Nat → Int32) (c : Nat) : List (Nat × Nat) → Prop
  | [] => True
  | w :: r => (w.1 = 11 ∨ (w.1 = 12 ∧ ¬ a = 0)) ∧ w.2 < c ∧ f w.2 = nI (1048576 * w.1 + 0) ∧ (∀ q, q ∈ r → q.2 < w.2) ∧ JQ a f c r
theorem JQ.k {a : Int32} {f g : Nat → Int32} {c c2 : Nat} : ∀ {Q : List (Nat × Nat)}, JQ a f c Q → (∀ q, q ∈ Q → g q.2 = f q.2) → c ≤ c2 → JQ a g c2 Q := by
  intro Q
  induction Q with
  | nil => intro _ _ _; exact True.intro
  | cons w r ih =>
    intro h hk hc
    obtain ⟨h1, h2, h3, h4, h5⟩ := h
    exact ⟨h1, by omega, (hk w List.mem_cons_self).trans h3, h4, ih h5 (fun q hq => hk q (List.mem_cons_of_mem _ hq)) hc⟩
theorem lands_all {N n : Nat} {tx : Nat → Int32} {W : List (Nat × Nat)} {d p c : Nat} {a : Int32} (h1 : tpI W ≠ 11) (h2 : a = 0 ∨ tpI W ≠ 12) (hc : c < 260) : ∀ (Q : List (Nat × Nat)) (k : Nat) (σ : Mem), MS n tx σ (Q ++ W) d p c → JQ a (mI σ 73) c Q → Q.length < k → (Q ++ W).length ≤ 260 → ∃ σ', L_Mo_lands_l0 N a k σ = some σ' ∧ MS n tx σ' W d p c ∧ (∀ q, q ∈ Q → mI σ' 73 q.2 = nI (1048576 * q.1 + c)) ∧ ∀ j, (∀ q, q ∈ Q → q.2 ≠ j) → mI σ' 73 j = mI σ 73 j := by
  intro Q
  induction Q with
  | nil =>
    intro k σ h hQ hk hl
    obtain ⟨k, rfl⟩ : ∃ z, k = z + 1 := ⟨k - 1, by omega⟩
    exact ⟨σ, lands_stop h hl h1 h2, h, fun q hq => absurd hq (by simp), fun j _ => rfl⟩
  | cons w r ih =>
    intro k σ h hQ hk hl
    obtain ⟨k, rfl⟩ : ∃ z, k = z + 1 := ⟨k - 1, by omega⟩
    obtain ⟨o, f⟩ := w
    obtain ⟨q1, q2, q3, q4, q5⟩ := hQ
    have h : MS n tx σ ((o, f) :: (r ++ W)) d p c := h
    have hl' : ((o, f) :: (r ++ W)).length ≤ 260 := hl
    rw [List.length_cons] at hl' hk
    have q2 : f < c := q2
    obtain ⟨σ2, b1, b2, b3⟩ := lands_go (N := N) (k := k) h (by omega) q1 (by omega) hc q3
    have hne : ∀ q, q ∈ r → q.2 ≠ f := fun q hq z => by have := q4 q hq; rw [z] at this; exact absurd this (Nat.lt_irrefl _)
    obtain ⟨σ3, c1, c2, c3, c4⟩ := ih k σ2 b2 (q5.k (fun q hq => by rw [b3, up1_n _ _ (hne q hq)]) (Nat.le_refl _)) (by omega) (by omega)
    refine ⟨σ3, b1.trans c1, c2, fun q hq => ?_, fun j hj => ?_⟩
    · rcases List.mem_cons.mp hq with rfl | z
      · rw [c4 f (fun q hq => hne q hq), b3, up1_s]
      · exact c3 q z
    · rw [c4 j (fun q hq => hj q (List.mem_cons_of_mem _ hq)), b3, up1_n _ _ (fun z => hj (o, f) List.mem_cons_self z.symm)]
theorem mo_lands {N n : Nat} {tx : Nat → Int32} {W : List (Nat × Nat)} {d p c : Nat} {a : Int32} (hN : 1000 < N) (h1 : tpI W ≠ 11) (h2 : a = 0 ∨ tpI W ≠ 12) (hc : c < 260) {Q : List (Nat × Nat)} {σ : Mem} (h : MS n tx σ (Q ++ W) d p c) (hQ : JQ a (mI σ 73) c Q) (hl : (Q ++ W).length ≤ 260) : ∃ σ', f_Mo_lands N σ a = some σ' ∧ MS n tx σ' W d p c ∧ (∀ q, q ∈ Q → mI σ' 73 q.2 = nI (1048576 * q.1 + c)) ∧ ∀ j, (∀ q, q ∈ Q → q.2 ≠ j) → mI σ' 73 j = mI σ 73 j := by
  have hl2 := hl
  rw [List.length_append] at hl2
  obtain ⟨σ', g1, g2⟩ := lands_all (N := N) h1 h2 hc Q N σ h hQ (by omega) hl
  refine ⟨σ', ?_, g2⟩
  unfold f_Mo_lands
  rw [g1]
  rfl
theorem mo_jumps {n : Nat} {tx : Nat → Int32} {σ : Mem} {W : List (Nat × Nat)} {d p c o : Nat} (h : MS n tx σ W d p c) (hW : W.length < 260) (hc : c < 260) (hp : p < n) (ho : o < 16) {x : Int32} (ex : x = nI o) : ∃ σ', f_Mo_jumps σ x = some σ' ∧ MS n tx σ' ((o, c) :: W) d (p + 1) (c + 1) ∧ mI σ' 73 = up1 (mI σ 73) c (nI (1048576 * o + 0)) := by
  obtain ⟨σ1, a1, a2, a3⟩ := h.push (o := o) (v := c) ho (by omega) (x := 1048576 * x + nI c) (by rw [ex, ← nI_add, ← pk_mul]; rfl)
  obtain ⟨σ2, b1, b2, b3⟩ := a2.notes hc x 0
  obtain ⟨σ3, c1, c2, c3⟩ := b2.adv hp
  refine ⟨σ3, ?_, c2, ?_⟩
  · unfold f_Mo_jumps
    rw [h.2.2.2.2.2.1, grd_t (inb_j hW (by decide)), h.2.2.2.2.1, letv_n, nI_clamp (by omega), mI_sIn _ _ _ (by decide), h.2.2.2.2.2.1, letv_n, a1, b1]
    simp only [bnd1_n]
    rw [letv_n, c1]
  · rw [c3, b3, a3, ex, Nat.add_zero, ← pk_mul]
    show up1 (mI σ 73) c (1048576 * nI o + 0) = up1 (mI σ 73) c (nI 1048576 * nI o)
    rw [Int32.add_zero]
    rfl
-- ===== conditions =====
def CondT (N k : Nat) (x92_ : (Int32 × Mem) ⊕ Mem) : Option (Int32 × Mem) := sm x92_ (fun r92_ => some r92_) fun σ92_ =>
    bnd1 (f_Mo_here σ92_) fun r153 =>
    bnd1 ((
      if r153 = 38 then
        (some 0)
      else
        (bnd1 (f_Mo_here σ92_) fun r162 =>
        if r162 = 124 then
          (some 0)
        else
          (some 1))) : Option (Nat)) fun t158b =>
    if t158b = 0 then
      (bnd1 (f_Mo_here σ92_) fun r182 =>
      bnd1 ((
        if r182 = 124 then
          (some 1)
        else
          (some 0)) : Option (Int32)) fun y187_s1 =>
      bnd1 (f_Mo_lands N σ92_ y187_s1) fun σ195 =>
      bnd1 (f_Mo_here σ195) fun r200 =>
      bnd1 ((
        if r200 = 38 then
          (some 11)
        else
          (some 12)) : Option (Int32)) fun y205_s1 =>
      bnd1 (f_Mo_jumps σ195 y205_s1) fun σ215 =>
      L_Mo_readsCondition_l40 N k σ215)
    else
    (bnd2 (f_Mo_wrongAt σ92_ 1 (mI σ92_ 65 12)) fun r176 σ176 =>
    grd (decide (r176 &&& 1 = r176)) (some (r176, σ176)))
def AP (N k92 k40 : Nat) (σ : Mem) : Option (Int32 × Mem) := bnd1 (L_Mo_readsCondition_l92 N k92 σ) (CondT N k40)
def EP (N ke k92 k40 : Nat) (σ : Mem) : Option (Int32 × Mem) := bnd1 (L_Mo_endsPiece_l0 N ke σ) fun σ1 => AP N k92 k40 σ1
theorem ch_open {N k : Nat} {ch y : Int32} {σ σ1 : Mem} {r : Int32} (h : f_Mo_here σ = some ch) (hc : (ch = 33 ∧ y = 10) ∨ (ch = 40 ∧ y = 13)) (e : f_Mo_opens σ y = some (r, σ1)) : L_Mo_readsCondition_l40 N (k + 1) σ = if r = 0 then some (0, σ1) else L_Mo_readsCondition_l40 N k σ1 := by
  show B_Mo_readsCondition_l40 N _ σ = _
  unfold B_Mo_readsCondition_l40
  rw [h]
  simp only [bnd1_n]
  rcases hc with ⟨rfl, rfl⟩ | ⟨rfl, rfl⟩
  · simp only [if_true, bnd1_n, q2_n]
    rw [h]
    simp only [if_true, bnd1_n]
    rw [e]
    simp only [bnd2_n]
  · rw [if_neg (show ¬ ((40 : Int32) = 33) by decide)]
    simp only [if_true, bnd1_n, q2_n]
    rw [h]
    simp only [bnd1_n]
    rw [if_neg (show ¬ ((40 : Int32) = 33) by decide)]
    simp only [bnd1_n]
    rw [e]
    simp only [bnd2_n]
theorem ch_bad {N k : Nat} {ch : Int32} {σ σ1 : Mem} (h : f_Mo_here σ = some ch) (h1 : ch ≠ 33) (h2 : ch ≠ 40) (e : f_Mo_readsCompared N σ = some (0, σ1)) : L_Mo_readsCondition_l40 N (k + 1) σ = some (0, σ1) := by
  show B_Mo_readsCondition_l40 N _ σ = _
  unfold B_Mo_readsCondition_l40
  rw [h]
  simp only [bnd1_n]
  rw [if_neg h1, if_neg h2, e]
  simp only [bnd2_n, if_true, bnd1_n, q2_n, if_neg (show ¬ (2 = 0) by decide), if_neg (show ¬ (2 = 1) by decide)]
theorem ch_cmp {N k : Nat} {ch : Int32} {σ σ1 : Mem} (h : f_Mo_here σ = some ch) (h1 : ch ≠ 33) (h2 : ch ≠ 40) (e : f_Mo_readsCompared N σ = bnd1 (f_Mo_endsPiece N σ1) fun σ94 => some (1, σ94)) : L_Mo_readsCondition_l40 N (k + 1) σ = EP N N N k σ1 := by
  show B_Mo_readsCondition_l40 N _ σ = _
  unfold B_Mo_readsCondition_l40
  rw [h]
  simp only [bnd1_n]
  rw [if_neg h1, if_neg h2, e]
  unfold EP f_Mo_endsPiece
  cases L_Mo_endsPiece_l0 N N σ1 with
  | none => rfl
  | some s =>
    simp only [bnd2_n, bnd1_n, if_neg ne10, q2_n, if_neg (show ¬ (1 = 0) by decide), if_true]
    rfl
theorem ap_bad {N k k40 p : Nat} {ch : Int32} {σ : Mem} (h : f_Mo_here σ = some ch) (h1 : ch ≠ 41) (h2 : ch ≠ 38) (h3 : ch ≠ 124) (hp : mI σ 65 12 = nI p) : ∃ σ', AP N (k + 1) k40 σ = some (0, σ') ∧ mI σ' 65 14 = (-1000) * nI 1 - nI p := by
  obtain ⟨σ', w1, w2⟩ := mo_wr hp 1 1 rfl
  refine ⟨σ', ?_, w2⟩
  have hB : L_Mo_readsCondition_l92 N (k + 1) σ = some (.inr σ) := by
    show B_Mo_readsCondition_l92 N _ σ = _
    unfold B_Mo_readsCondition_l92
    rw [h]
    simp only [bnd1_n, if_neg h1]
  unfold AP
  rw [hB]
  simp only [bnd1_n]
  unfold CondT
  show bnd1 (f_Mo_here σ) _ = _
  rw [h]
  simp only [bnd1_n, if_neg h2, if_neg h3, if_neg (show ¬ (1 = 0) by decide)]
  exact w1
theorem ap_go {N k k40 : Nat} {ch y z : Int32} {σ σ1 σ2 : Mem} (h : f_Mo_here σ = some ch) (hc : (ch = 38 ∧ y = 0 ∧ z = 11) ∨ (ch = 124 ∧ y = 1 ∧ z = 12)) (e1 : f_Mo_lands N σ y = some σ1) (h' : f_Mo_here σ1 = some ch) (e2 : f_Mo_jumps σ1 z = some σ2) : AP N (k + 1) k40 σ = L_Mo_readsCondition_l40 N k40 σ2 := by
  have hB : L_Mo_readsCondition_l92 N (k + 1) σ = some (.inr σ) := by
    show B_Mo_readsCondition_l92 N _ σ = _
    unfold B_Mo_readsCondition_l92
    rw [h]
    simp only [bnd1_n]
    rw [if_neg (by rcases hc with ⟨rfl, -⟩ | ⟨rfl, -⟩ <;> decide)]
  unfold AP
  rw [hB]
  simp only [bnd1_n]
  unfold CondT
  show bnd1 (f_Mo_here σ) _ = _
  rw [h]
  simp only [bnd1_n]
  rcases hc with ⟨rfl, rfl, rfl⟩ | ⟨rfl, rfl, rfl⟩
  · simp only [if_true, bnd1_n]
    rw [if_neg (show ¬ ((38 : Int32) = 124) by decide)]
    simp only [bnd1_n]
    rw [e1]
    simp only [bnd1_n]
    rw [h']
    simp only [if_true, bnd1_n]
    rw [e2]
    simp only [bnd1_n]
  · rw [if_neg (show ¬ ((124 : Int32) = 38) by decide)]
    simp only [if_true, bnd1_n]
    rw [e1]
    simp only [bnd1_n]
    rw [h']
    simp only [bnd1_n]
    rw [if_neg (show ¬ ((124 : Int32) = 38) by decide)]
    simp only [bnd1_n]
    rw [e2]
    simp only [bnd1_n]
theorem ap_shut {N k k40 : Nat} {σ σ1 σ2 σ3 σ4 : Mem} (h : f_Mo_here σ = some 41) (e1 : f_Mo_lands N σ 1 = some σ1) (e2 : sI σ1 65 17 (mI σ1 65 17 - 1) = σ2) (e3 : sI σ2 65 15 (mI σ2 65 15 - 1) = σ3) (e4 : sI σ3 65 12 (mI σ3 65 12 + 1) = σ4) : AP N (k + 1) k40 σ = if mI σ4 65 17 = 0 then some (1, σ4) else EP N N k k40 σ4 := by
  have hB : L_Mo_readsCondition_l92 N (k + 1) σ = if mI σ4 65 17 = 0 then some (.inl (1, σ4)) else bnd1 (f_Mo_endsPiece N σ4) fun σ146 => L_Mo_readsCondition_l92 N k σ146 := by
    show B_Mo_readsCondition_l92 N _ σ = _
    unfold B_Mo_readsCondition_l92
    rw [h]
    simp only [bnd1_n, if_true]
    rw [e1]
    simp only [bnd1_n]
    rw [letv_n, e2, letv_n, e3, letv_n, e4]
  unfold AP
  rw [hB]
  by_cases z : mI σ4 65 17 = 0
  · rw [if_pos z, if_pos z]
    rfl
  · rw [if_neg z, if_neg z]
    unfold EP f_Mo_endsPiece
    cases L_Mo_endsPiece_l0 N N σ4 with
    | none => rfl
    | some s => rfl
theorem ep_stop {N ke k92 k40 n : Nat} {tx : Nat → Int32} {σ : Mem} {W : List (Nat × Nat)} {d p c : Nat} (h : MS n tx σ W d p c) (hW : W.length ≤ 260) (h1 : tpI W ≠ 10) : EP N (ke + 1) k92 k40 σ = AP N k92 k40 σ := by
  have hB : L_Mo_endsPiece_l0 N (ke + 1) σ = some σ := by
    show B_Mo_endsPiece_l0 N _ σ = _
    unfold B_Mo_endsPiece_l0
    rw [mo_top h hW]
    simp only [bnd1_n, if_neg h1]
  unfold EP
  rw [hB]
  simp only [bnd1_n]
theorem ep_not {N ke k92 k40 n : Nat} {tx : Nat → Int32} {σ : Mem} {W : List (Nat × Nat)} {d p c : Nat} (h : MS n tx σ ((10, 0) :: W) (d + 1) p c) (hW : W.length < 260) (hc : c < 260) : ∃ σ3, EP N (ke + 1) k92 k40 σ = EP N ke k92 k40 σ3 ∧ MS n tx σ3 W d p (c + 1) ∧ mI σ3 73 = up1 (mI σ 73) c (nI (1048576 * 10 + 0)) := by
  obtain ⟨σ1, a1, a2, a3⟩ := h.notes hc 10 0
  obtain ⟨σ2, b1, b2, b3⟩ := a2.pop
  obtain ⟨σ3, c1, c2, c3⟩ := b2.less
  refine ⟨σ3, ?_, c2, by rw [c3, b3, a3]; rfl⟩
  have hB : L_Mo_endsPiece_l0 N (ke + 1) σ = L_Mo_endsPiece_l0 N ke σ3 := by
    show B_Mo_endsPiece_l0 N _ σ = _
    unfold B_Mo_endsPiece_l0
    rw [mo_top h (by rw [List.length_cons]; omega)]
    simp only [bnd1_n]
    rw [if_pos (show tpI ((10, 0) :: W) = 10 from rfl), a1]
    simp only [bnd1_n]
    rw [letv_n, b1, letv_n, c1]
  unfold EP
  rw [hB]
