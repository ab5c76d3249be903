-- ===== the reference's reader: single steps =====
def WS (f : Nat → Int32) : List (Nat × Nat) → Prop
  | [] => True
  | w :: r => f r.length = nI (1048576 * w.1 + w.2) ∧ w.1 < 16 ∧ w.2 < 1048576 ∧ WS f r
theorem WS.up {f : Nat → Int32} {m : Nat} {x : Int32} : ∀ {W : List (Nat × Nat)}, WS f W → W.length ≤ m → WS (up1 f m x) W := by
  intro W
  induction W with
  | nil => intro _ _; exact True.intro
  | cons v r ih =>
    intro h hm
    rw [List.length_cons] at hm
    exact ⟨by rw [up1_n _ _ (by omega)]; exact h.1, h.2.1, h.2.2.1, ih h.2.2.2 (by omega)⟩
def MS (n : Nat) (tx : Nat → Int32) (σ : Mem) (W : List (Nat × Nat)) (d p c : Nat) : Prop := mI σ 65 12 = nI p ∧ mI σ 65 13 = nI n ∧ (∀ j, j < n → mI σ 72 j &&& 255 = tx j) ∧ mI σ 65 15 = nI d ∧ mI σ 65 16 = nI c ∧ mI σ 65 17 = nI W.length ∧ WS (mI σ 74) W ∧ p ≤ n
def tpI (W : List (Nat × Nat)) : Int32 := match W with
  | [] => -1
  | w :: _ => nI w.1
section MoS
variable {n : Nat} {tx : Nat → Int32} {σ : Mem} {W : List (Nat × Nat)} {d p c : Nat}
theorem mo_here (hT : TX n tx) (h : MS n tx σ W d p c) : f_Mo_here σ = some (tx p) := by
  have h8 := h.2.2.2.2.2.2.2
  obtain ⟨h1, h2, h3, -⟩ := h
  have hn := hT.1
  unfold f_Mo_here
  rw [h1, h2]
  rcases Nat.lt_or_ge p n with z | z
  · rw [if_neg (nI_ge z (by omega)), grd_t (inb_j (by omega) (by decide)), nI_clamp (by omega), h3 p z]
  · rw [if_pos (nI_le z (by omega)), hT.2.2 p z]
theorem mo_isDigit (hT : TX n tx) (h : MS n tx σ W d p c) : (f_Mo_isDigit σ = some 1 ∧ dig (tx p)) ∨ (f_Mo_isDigit σ = some 0 ∧ ¬ dig (tx p)) := by
  unfold f_Mo_isDigit
  rw [mo_here hT h]
  simp only [bnd1_n]
  by_cases z1 : tx p < 48
  · rw [if_pos z1]
    exact Or.inr ⟨rfl, fun z => z.1 z1⟩
  · rw [if_neg z1]
    by_cases z2 : 57 < tx p
    · rw [if_pos z2]
      exact Or.inr ⟨rfl, fun z => z.2 z2⟩
    · rw [if_neg z2]
      exact Or.inl ⟨rfl, z1, z2⟩
theorem mo_wr (h : mI σ 65 12 = nI p) (kI : Int32) (k : Nat) (e : kI = nI k) : ∃ σ', (bnd2 (f_Mo_wrongAt σ kI (mI σ 65 12)) fun r s => grd (decide (r &&& 1 = r)) (some (r, s))) = some (0, σ') ∧ mI σ' 65 14 = (-1000) * nI k - nI p := by
  refine ⟨sI σ 65 14 ((-1000) * kI - mI σ 65 12), rfl, ?_⟩
  rw [sI_s, h, e]
theorem MS.notes (h : MS n tx σ W d p c) (hc : c < 260) (a v : Int32) : ∃ σ', f_Mo_notes σ a v = some σ' ∧ MS n tx σ' W d p (c + 1) ∧ mI σ' 73 = up1 (mI σ 73) c (1048576 * a + v) := by
  obtain ⟨h1, h2, h3, h4, h5, h6, h7, h8⟩ := h
  refine ⟨sI (sI σ 73 c (1048576 * a + v)) 65 16 (nI (c + 1)), ?_, ⟨?_, ?_, fun j hj => ?_, ?_, ?_, ?_, ?_, h8⟩, ?_⟩
  · unfold f_Mo_notes
    rw [h5, grd_t (inb_j hc (by decide)), letv_n, letv_n, nI_clamp (by omega), mI_sIn _ _ _ (by decide), h5, nI_1]
  · rw [sI_n _ _ (by omega), mI_sIn _ _ _ (by decide)]; exact h1
  · rw [sI_n _ _ (by omega), mI_sIn _ _ _ (by decide)]; exact h2
  · rw [mI_sIn _ _ _ (by decide), mI_sIn _ _ _ (by decide)]; exact h3 j hj
  · rw [sI_n _ _ (by omega), mI_sIn _ _ _ (by decide)]; exact h4
  · rw [sI_s]
  · rw [sI_n _ _ (by omega), mI_sIn _ _ _ (by decide)]; exact h6
  · rw [mI_sIn _ _ _ (by decide), mI_sIn _ _ _ (by decide)]; exact h7
  · rw [mI_sIn _ _ _ (by decide), mI_sI]
theorem MS.adv (h : MS n tx σ W d p c) (hp : p < n) : ∃ σ', sI σ 65 12 (mI σ 65 12 + 1) = σ' ∧ MS n tx σ' W d (p + 1) c ∧ mI σ' 73 = mI σ 73 := by
  obtain ⟨h1, h2, h3, h4, h5, h6, h7, h8⟩ := h
  refine ⟨_, rfl, ⟨?_, ?_, fun j hj => ?_, ?_, ?_, ?_, ?_, hp⟩, ?_⟩
  · rw [sI_s, h1, nI_1]
  · rw [sI_n _ _ (by omega)]; exact h2
  · rw [mI_sIn _ _ _ (by decide)]; exact h3 j hj
  · rw [sI_n _ _ (by omega)]; exact h4
  · rw [sI_n _ _ (by omega)]; exact h5
  · rw [sI_n _ _ (by omega)]; exact h6
  · rw [mI_sIn _ _ _ (by decide)]; exact h7
  · rw [mI_sIn _ _ _ (by decide)]
theorem MS.pop {w : Nat × Nat} (h : MS n tx σ (w :: W) d p c) : ∃ σ', sI σ 65 17 (mI σ 65 17 - 1) = σ' ∧ MS n tx σ' W d p c ∧ mI σ' 73 = mI σ 73 := by
  obtain ⟨h1, h2, h3, h4, h5, h6, h7, h8⟩ := h
  refine ⟨_, rfl, ⟨?_, ?_, fun j hj => ?_, ?_, ?_, ?_, ?_, h8⟩, ?_⟩
  · rw [sI_n _ _ (by omega)]; exact h1
  · rw [sI_n _ _ (by omega)]; exact h2
  · rw [mI_sIn _ _ _ (by decide)]; exact h3 j hj
  · rw [sI_n _ _ (by omega)]; exact h4
  · rw [sI_n _ _ (by omega)]; exact h5
  · rw [sI_s, h6, List.length_cons, nI_pred]
  · rw [mI_sIn _ _ _ (by decide)]; exact h7.2.2.2
  · rw [mI_sIn _ _ _ (by decide)]
theorem MS.less (h : MS n tx σ W (d + 1) p c) : ∃ σ', sI σ 65 15 (mI σ 65 15 - 1) = σ' ∧ MS n tx σ' W d p c ∧ mI σ' 73 = mI σ 73 := by
  obtain ⟨h1, h2, h3, h4, h5, h6, h7, h8⟩ := h
  refine ⟨_, rfl, ⟨?_, ?_, fun j hj => ?_, ?_, ?_, ?_, ?_, h8⟩, ?_⟩
  · rw [sI_n _ _ (by omega)]; exact h1
  · rw [sI_n _ _ (by omega)]; exact h2
  · rw [mI_sIn _ _ _ (by decide)]; exact h3 j hj
  · rw [sI_s, h4, nI_pred]
  · rw [sI_n _ _ (by omega)]; exact h5
  · rw [sI_n _ _ (by omega)]; exact h6
  · rw [mI_sIn _ _ _ (by decide)]; exact h7
  · rw [mI_sIn _ _ _ (by decide)]
/-- a word on the stack of what waits -/
theorem MS.push (h : MS n tx σ W d p c) {o v : Nat} (ho : o < 16) (hv : v < 1048576) {x : Int32} (ex : x = nI (1048576 * o + v)) : ∃ σ', sI (sI σ 74 W.length x) 65 17 (nI W.length + 1) = σ' ∧ MS n tx σ' ((o, v) :: W) d p c ∧ mI σ' 73 = mI σ 73 := by
  obtain ⟨h1, h2, h3, h4, h5, h6, h7, h8⟩ := h
  refine ⟨_, rfl, ⟨?_, ?_, fun j hj => ?_, ?_, ?_, ?_, ?_, h8⟩, ?_⟩
  · rw [sI_n _ _ (by omega), mI_sIn _ _ _ (by decide)]; exact h1
  · rw [sI_n _ _ (by omega), mI_sIn _ _ _ (by decide)]; exact h2
  · rw [mI_sIn _ _ _ (by decide), mI_sIn _ _ _ (by decide)]; exact h3 j hj
  · rw [sI_n _ _ (by omega), mI_sIn _ _ _ (by decide)]; exact h4
  · rw [sI_n _ _ (by omega), mI_sIn _ _ _ (by decide)]; exact h5
  · rw [sI_s, List.length_cons, nI_1]
  · rw [mI_sIn _ _ _ (by decide), mI_sI]
    exact ⟨by rw [up1_s]; exact ex, ho, hv, h7.up (Nat.le_refl _)⟩
  · rw [mI_sIn _ _ _ (by decide), mI_sIn _ _ _ (by decide)]
theorem mo_opens (h : MS n tx σ W d p c) (hn : n ≤ 240) (hp : p < n) (hd : d ≤ 6) (hW : W.length < 260) {o : Nat} (ho : o < 16) {x : Int32} (ex : x = nI o) : (d < 6 ∧ ∃ σ', f_Mo_opens σ x = some (1, σ') ∧ MS n tx σ' ((o, 0) :: W) (d + 1) (p + 1) c ∧ mI σ' 73 = mI σ 73) ∨ (6 ≤ d ∧ ∃ σ', f_Mo_opens σ x = some (0, σ') ∧ mI σ' 65 14 = (-1000) * nI 5 - nI p) := by
  unfold f_Mo_opens
  rcases Nat.lt_or_ge d 6 with z | z
  · refine Or.inl ⟨z, ?_⟩
    obtain ⟨h1, h2, h3, h4, h5, h6, h7, h8⟩ := h
    have hM : MS n tx (sI σ 65 15 (mI σ 65 15 + 1)) W (d + 1) p c := by
      refine ⟨?_, ?_, fun j hj => ?_, ?_, ?_, ?_, ?_, h8⟩
      · rw [sI_n _ _ (by omega)]; exact h1
      · rw [sI_n _ _ (by omega)]; exact h2
      · rw [mI_sIn _ _ _ (by decide)]; exact h3 j hj
      · rw [sI_s, h4, nI_1]
      · rw [sI_n _ _ (by omega)]; exact h5
      · rw [sI_n _ _ (by omega)]; exact h6
      · rw [mI_sIn _ _ _ (by decide)]; exact h7
    obtain ⟨σ1, a1, a2, a3⟩ := hM.push ho (v := 0) (by decide) (x := 1048576 * x) (by rw [ex, Nat.add_zero, ← pk_mul]; rfl)
    obtain ⟨σ2, b1, b2, b3⟩ := a2.adv hp
    refine ⟨σ2, ?_, b2, by rw [b3, a3, mI_sIn _ _ _ (by decide)]⟩
    have hl : mI (sI σ 65 15 (mI σ 65 15 + 1)) 65 17 = nI W.length := hM.2.2.2.2.2.1
    rw [if_neg (show ¬ mI σ 65 15 = 6 from by rw [h4]; intro e; have := (nI_eq (b := 6) (by omega) (by decide)).mp e; omega), letv_n, hl, grd_t (inb_j hW (by decide)), letv_n, nI_clamp (by omega), mI_sIn _ _ _ (by decide), hl, letv_n, a1, letv_n, b1]
  · refine Or.inr ⟨z, ?_⟩
    have e6 : d = 6 := by omega
    obtain ⟨σ', a1, a2⟩ := mo_wr h.1 5 5 rfl
    refine ⟨σ', ?_, a2⟩
    rw [if_pos (by rw [h.2.2.2.1, e6]; rfl)]
    exact a1
theorem mo_top (h : MS n tx σ W d p c) (hW : W.length ≤ 260) : f_Mo_waitTop σ = some (tpI W) := by
  obtain ⟨h1, h2, h3, h4, h5, h6, h7, h8⟩ := h
  unfold f_Mo_waitTop
  rw [h6]
  match W, h7, hW with
  | [], _, _ => rfl
  | w :: r, h7, hW =>
    rw [List.length_cons] at hW ⊢
    rw [if_neg (nI_ne0 (by omega) (by omega)), nI_pred, grd_t (inb_j (by omega) (by decide)), nI_clamp (by omega), h7.1, un_q h7.2.1 h7.2.2.1]
    rfl
end MoS
-- closing the signs of a sum
abbrev clo (a x : Int32) : Prop := (¬ x < 4 ∧ x ≤ 6) ∨ (¬ a = 0 ∧ (x = 2 ∨ x = 3))
theorem closes_stop {N k n : Nat} {tx : Nat → Int32} {σ : Mem} {W : List (Nat × Nat)} {d p c : Nat} {a : Int32} (h : MS n tx σ W d p c) (hW : W.length ≤ 260) (hc : ¬ clo a (tpI W)) : L_Mo_closesSums_l0 N a (k + 1) σ = some σ := by
  show B_Mo_closesSums_l0 N a _ σ = _
  unfold B_Mo_closesSums_l0
  rw [mo_top h hW]
  simp only [bnd1_n]
  have hE : ((if a = 0 then some 0 else if tpI W = 2 then some 1 else if tpI W = 3 then some 1 else some 0) : Option Nat) = some 0 := by
    by_cases a0 : a = 0
    · rw [if_pos a0]
    · rw [if_neg a0, if_neg (fun z => hc (Or.inr ⟨a0, Or.inl z⟩)), if_neg (fun z => hc (Or.inr ⟨a0, Or.inr z⟩))]
  by_cases z1 : tpI W < 4
  · rw [if_pos z1]
    simp only [bnd1_n, if_true]
    rw [hE]
    simp only [bnd1_n, if_true]
  · rw [if_neg z1, if_neg (fun z => hc (Or.inl ⟨z1, z⟩))]
    simp only [bnd1_n, if_true]
    rw [hE]
    simp only [bnd1_n, if_true]
theorem closes_go {N k n : Nat} {tx : Nat → Int32} {σ : Mem} {W : List (Nat × Nat)} {d p c : Nat} {a : Int32} (h : MS n tx σ W d p c) (hW : W.length ≤ 260) (hc : clo a (tpI W)) {σ1 σ2 : Mem} (e1 : f_Mo_notes σ (tpI W) 0 = some σ1) (e2 : sI σ1 65 17 (mI σ1 65 17 - 1) = σ2) : L_Mo_closesSums_l0 N a (k + 1) σ = L_Mo_closesSums_l0 N a k σ2 := by
  show B_Mo_closesSums_l0 N a _ σ = _
  unfold B_Mo_closesSums_l0
  rw [mo_top h hW]
  simp only [bnd1_n]
  rw [e1]
  simp only [bnd1_n, letv_n, e2]
  rcases hc with ⟨z1, z2⟩ | ⟨z1, z2⟩
  · rw [if_neg z1, if_pos z2]
    simp only [bnd1_n, if_neg (show ¬ (1 = 0) by decide)]
  · have z3 : tpI W < 4 := by rcases z2 with q | q <;> rw [q] <;> decide
    rw [if_pos z3]
    simp only [bnd1_n, if_true]
    have hE : ((if a = 0 then some 0 else if tpI W = 2 then some 1 else if tpI W = 3 then some 1 else some 0) : Option Nat) = some 1 := by
      rw [if_neg z1]
      rcases z2 with q | q
      · rw [if_pos q]
      · rw [if_neg (by rw [q]; decide), if_pos q]
    rw [hE]
    simp only [bnd1_n, if_neg (show ¬ (1 = 0) by decide)]
def CD (f : Nat → Int32) (c : Nat) : List Nat → Prop
  | [] => True
  | o :: r => f c = nI (1048576 * o + 0) ∧ CD f (c + 1) r
theorem CD.k {f g : Nat → Int32} : ∀ {P : List Nat} {c : Nat}, CD f c P → (∀ j, c ≤ j → j < c + P.length → g j = f j) → CD g c P := by
  intro P
  induction P with
  | nil => intro c _ _; exact True.intro
  | cons o r ih =>
    intro c h hk
    rw [List.length_cons] at hk
    exact ⟨(hk c (Nat.le_refl _) (by omega)).trans h.1, ih h.2 (fun j h1 h2 => hk j (by omega) (by omega))⟩
theorem CD.app {f : Nat → Int32} {o : Nat} : ∀ {P : List Nat} {c : Nat}, CD f c (P ++ [o]) → CD f c P ∧ f (c + P.length) = nI (1048576 * o + 0) := by
  intro P
  induction P with
  | nil => intro c h; exact ⟨True.intro, h.1⟩
  | cons q r ih =>
    intro c h
    obtain ⟨h1, h2⟩ := ih (c := c + 1) h.2
    refine ⟨⟨h.1, h1⟩, ?_⟩
    rw [List.length_cons, show c + (r.length + 1) = c + 1 + r.length by omega]
    exact h2
def pw (P : List Nat) : List (Nat × Nat) := P.map (fun o => (o, 0))
theorem pw_len (P : List Nat) : (pw P).length = P.length := List.length_map ..
theorem closes_all {N n : Nat} {tx : Nat → Int32} {W : List (Nat × Nat)} {d p : Nat} {a : Int32} (hW : ¬ clo a (tpI W)) : ∀ (P : List Nat) (k c : Nat) (σ : Mem), MS n tx σ (pw P ++ W) d p c → (∀ o, o ∈ P → clo a (nI o)) → P.length < k → c + P.length ≤ 260 → (pw P ++ W).length ≤ 260 → ∃ σ', L_Mo_closesSums_l0 N a k σ = some σ' ∧ MS n tx σ' W d p (c + P.length) ∧ (∀ j, j < c → mI σ' 73 j = mI σ 73 j) ∧ CD (mI σ' 73) c P := by
  intro P
  induction P with
  | nil =>
    intro k c σ h hP hk hc hl
    obtain ⟨k, rfl⟩ : ∃ z, k = z + 1 := ⟨k - 1, by omega⟩
    exact ⟨σ, closes_stop h hl hW, h, fun j _ => rfl, True.intro⟩
  | cons o r ih =>
    intro k c σ h hP hk hc hl
    obtain ⟨k, rfl⟩ : ∃ z, k = z + 1 := ⟨k - 1, by omega⟩
    rw [List.length_cons] at hk hc
    have h : MS n tx σ ((o, 0) :: (pw r ++ W)) d p c := h
    have hl' : ((o, 0) :: (pw r ++ W)).length ≤ 260 := hl
    obtain ⟨σ1, a1, a2, a3⟩ := h.notes (by omega) (nI o) 0
    obtain ⟨σ2, b1, b2, b3⟩ := a2.pop
    obtain ⟨σ3, g1, g2, g3, g4⟩ := ih k (c + 1) σ2 b2 (fun q hq => hP q (List.mem_cons_of_mem _ hq)) (by omega) (by omega) (by rw [List.length_cons] at hl'; omega)
    refine ⟨σ3, (closes_go h hl' (hP o List.mem_cons_self) a1 b1).trans g1, ?_, fun j hj => ?_, ?_, g4⟩
    · rw [List.length_cons, show c + (r.length + 1) = c + 1 + r.length by omega]
      exact g2
    · rw [g3 j (by omega), b3, a3, up1_n _ _ (by omega)]
    · rw [g3 c (by omega), b3, a3, up1_s, Nat.add_zero, ← pk_mul]
      show 1048576 * nI o + 0 = nI 1048576 * nI o
      rw [Int32.add_zero]
      rfl
theorem mo_closes {N n : Nat} {tx : Nat → Int32} {W : List (Nat × Nat)} {d p c : Nat} {a : Int32} {P : List Nat} {σ : Mem} (hN : 1000 < N) (hW : ¬ clo a (tpI W)) (h : MS n tx σ (pw P ++ W) d p c) (hP : ∀ o, o ∈ P → clo a (nI o)) (hc : c + P.length ≤ 260) (hl : W.length + P.length ≤ 260) : ∃ σ', f_Mo_closesSums N σ a = some σ' ∧ MS n tx σ' W d p (c + P.length) ∧ (∀ j, j < c → mI σ' 73 j = mI σ 73 j) ∧ CD (mI σ' 73) c P := by
  obtain ⟨σ', g1, g2, g3, g4⟩ := closes_all (N := N) hW P N c σ h hP (by omega) hc (by rw [List.length_append, pw_len]; omega)
  refine ⟨σ', ?_, g2, g3, g4⟩
  unfold f_Mo_closesSums
  rw [g1]
  rfl
-- is a bracket open
theorem WS.at {f : Nat → Int32} {w : Nat × Nat} {W : List (Nat × Nat)} : ∀ {A : List (Nat × Nat)}, WS f (A ++ w :: W) → f W.length = nI (1048576 * w.1 + w.2) ∧ w.1 < 16 ∧ w.2 < 1048576 := by
  intro A
  induction A with
  | nil => intro h; exact ⟨h.1, h.2.1, h.2.2.1⟩
  | cons a A ih => intro h; exact ih h.2.2.2
theorem open_yes {N n : Nat} {tx : Nat → Int32} {W A : List (Nat × Nat)} {d p c : Nat} {σ : Mem} (h : MS n tx σ (A ++ (14, 0) :: W) d p c) (hl : (A ++ (14, 0) :: W).length ≤ 260) : ∀ (r k i : Nat), i + r = W.length → r < k → (∃ z, z = 1 ∧ L_Mo_hasOpenSum_l2 N σ k (nI i) = some z) := by
  obtain ⟨h1, h2, h3, h4, h5, h6, h7, h8⟩ := h
  have hlen : W.length < (A ++ (14, 0) :: W).length := by rw [List.length_append, List.length_cons]; omega
  intro r
  induction r with
  | zero =>
    intro k i e hk
    obtain ⟨k, rfl⟩ : ∃ z, k = z + 1 := ⟨k - 1, by omega⟩
    have e : i = W.length := by omega
    subst e
    refine ⟨1, rfl, ?_⟩
    show B_Mo_hasOpenSum_l2 N σ _ _ = _
    unfold B_Mo_hasOpenSum_l2
    rw [h6, if_neg (nI_ge hlen (by omega)), grd_t (inb_j (by omega) (by decide)), nI_clamp (by omega), h7.at.1, un_q (by decide) (by decide), if_pos (by decide)]
  | succ r ih =>
    intro k i e hk
    obtain ⟨k, rfl⟩ : ∃ z, k = z + 1 := ⟨k - 1, by omega⟩
    obtain ⟨z, z1, z2⟩ := ih k (i + 1) (by omega) (by omega)
    refine ⟨1, rfl, ?_⟩
    show B_Mo_hasOpenSum_l2 N σ _ _ = _
    unfold B_Mo_hasOpenSum_l2
    rw [h6, if_neg (nI_ge (by omega) (by omega)), grd_t (inb_j (by omega) (by decide)), nI_clamp (by omega)]
    by_cases q : mI σ 74 i / 1048576 = 14
    · rw [if_pos q]
    · rw [if_neg q, letv_n, nI_1, z2, z1]
theorem mo_open {N n : Nat} {tx : Nat → Int32} {W A : List (Nat × Nat)} {d p c base : Nat} {σ : Mem} (hN : 1000 < N) (h : MS n tx σ (A ++ (14, 0) :: W) d p c) (hl : (A ++ (14, 0) :: W).length ≤ 260) (hb : base ≤ W.length) : f_Mo_hasOpenSum N σ (nI base) = some 1 := by
  have hlen : W.length < (A ++ (14, 0) :: W).length := by rw [List.length_append, List.length_cons]; omega
  obtain ⟨z, z1, z2⟩ := open_yes (N := N) h hl (W.length - base) N base (by omega) (by omega)
  unfold f_Mo_hasOpenSum
  rw [z2, z1]
theorem WS.all {f : Nat → Int32} {W : List (Nat × Nat)} : ∀ {P : List Nat}, WS f (pw P ++ W) → ∀ i, W.length ≤ i → i < W.length + P.length → ∃ o, o ∈ P ∧ f i = nI (1048576 * o + 0) ∧ o < 16 := by
  intro P
  induction P with
  | nil => intro h i h1 h2; rw [List.length_nil] at h2; omega
  | cons o r ih =>
    intro h i h1 h2
    rw [List.length_cons] at h2
    have h : WS f ((o, 0) :: (pw r ++ W)) := h
    obtain ⟨a1, a2, a3, a4⟩ := h
    rw [List.length_append, pw_len] at a1
    rcases (show i < W.length + r.length ∨ i = r.length + W.length by omega) with z | z
    · obtain ⟨q, b1, b2, b3⟩ := ih a4 i h1 z
      exact ⟨q, List.mem_cons_of_mem _ b1, b2, b3⟩
    · rw [z]
      exact ⟨o, List.mem_cons_self, a1, a2⟩
theorem open_no {N n : Nat} {tx : Nat → Int32} {W : List (Nat × Nat)} {P : List Nat} {d p c : Nat} {σ : Mem} (h : MS n tx σ (pw P ++ W) d p c) (hl : W.length + P.length ≤ 260) (hP : ∀ o, o ∈ P → o ≠ 14) : ∀ (r k i : Nat), i + r = W.length + P.length → W.length ≤ i → r < k → L_Mo_hasOpenSum_l2 N σ k (nI i) = some 0 := by
  have h6 := h.2.2.2.2.2.1
  rw [List.length_append, pw_len] at h6
  intro r
  induction r with
  | zero =>
    intro k i e hi hk
    obtain ⟨k, rfl⟩ : ∃ z, k = z + 1 := ⟨k - 1, by omega⟩
    show B_Mo_hasOpenSum_l2 N σ _ _ = _
    unfold B_Mo_hasOpenSum_l2
    rw [h6, if_pos (nI_le (by omega) (by omega))]
  | succ r ih =>
    intro k i e hi hk
    obtain ⟨k, rfl⟩ : ∃ z, k = z + 1 := ⟨k - 1, by omega⟩
    obtain ⟨o, b1, b2, b3⟩ := h.2.2.2.2.2.2.1.all i hi (by omega)
    have hno : ¬ nI o = 14 := fun z => hP o b1 ((nI_eq (b := 14) (by omega) (by decide)).mp z)
    show B_Mo_hasOpenSum_l2 N σ _ _ = _
    unfold B_Mo_hasOpenSum_l2
    rw [h6, if_neg (nI_ge (by omega) (by omega)), grd_t (inb_j (by omega) (by decide)), nI_clamp (by omega), b2, un_q b3 (by decide), if_neg hno, letv_n, nI_1]
    exact ih k (i + 1) (by omega) (by omega) (by omega)
theorem mo_shut {N n : Nat} {tx : Nat → Int32} {W : List (Nat × Nat)} {P : List Nat} {d p c : Nat} {σ : Mem} (hN : 1000 < N) (h : MS n tx σ (pw P ++ W) d p c) (hl : W.length + P.length ≤ 260) (hP : ∀ o, o ∈ P → o ≠ 14) : f_Mo_hasOpenSum N σ (nI W.length) = some 0 := by
  unfold f_Mo_hasOpenSum
  exact open_no (N := N) h hl hP P.length N W.length (by omega) (by omega) (by omega)
