-- ===== the class's reader: pieces, parts =====
def rc (c x : Nat) (w : Int32) (st : List Int32) (o : Option Int32) : Option (Nat × List Int32) := match o with
  | none => none
  | some v => if v = w then some (x, v :: st) else some (c, st)
/-- code with jumps that wait for one aim x, in the cells W -/
def Chn (cd : Nat → Int32) (s c : Nat) (W : List Nat) (w : Int32) (h : Nat) (acc : DN) : Prop := ∀ (cd' : Nat → Int32) (x : Nat), (∀ j, s ≤ j → j < c → j ∉ W → cd' j = cd j) → (∀ j, j ∈ W → cd' j = nI x) → ∀ (F : FA) (st : List Int32), st.length + h ≤ 32 → ∃ m, m ≤ c - s ∧ Run (DC cd') F c m s st (rc c x w st (acc F))
theorem Chn.k {cd cd2 : Nat → Int32} {s c : Nat} {W : List Nat} {w : Int32} {h : Nat} {acc : DN} (H : Chn cd s c W w h acc) (hk : ∀ j, s ≤ j → j < c → cd2 j = cd j) : Chn cd2 s c W w h acc := fun cd' x h1 h2 => H cd' x (fun j a b d => (h1 j a b d).trans (hk j a b)) h2
theorem chn_base {cd : Nat → Int32} {s h : Nat} {w v : Int32} (hv : v ≠ w) : Chn cd s s [] w h (lcst v) := fun cd' x _ _ F st _ => ⟨0, by omega, by
  show rc s x w st (some v) = some (s, st)
  unfold rc
  exact if_neg hv⟩
theorem chn_step {cd cd2 : Nat → Int32} {s c c1 h i : Nat} {W : List Nat} {w cell : Int32} {acc g : DN} (H : Chn cd s c W w h acc) (S : SemX DC cd c c1 h g) (h2 : 2 ≤ h) (h01 : B01 g) (sc : s ≤ c) (cc : c ≤ c1) (hW : ∀ j, j ∈ W → j < c) (hc : c1 < 500) (hi : (i = 4 ∧ w = 0 ∧ cell = 3) ∨ (i = 5 ∧ w = 1 ∧ cell = 4)) (hk : ∀ j, s ≤ j → j < c1 → cd2 j = cd j) (hk1 : cd2 c1 = cell) : Chn cd2 s (c1 + 2) ((c1 + 1) :: W) w h (jD w acc g) := by
  intro cd' x a1 a2 F st hs
  have hnW : ∀ j, c ≤ j → j ∉ W := fun j hj z => absurd (hW j z) (by omega)
  obtain ⟨m1, b1, r1⟩ := H cd' x (fun j q1 q2 q3 => (a1 j q1 (by omega) (fun z => by
    rcases List.mem_cons.mp z with z | z
    · omega
    · exact q3 z)).trans (hk j q1 (by omega))) (fun j hj => a2 j (List.mem_cons_of_mem _ hj)) F st hs
  have r1 := Run.up (show c ≤ c1 + 2 by omega) _ _ _ r1
  unfold jD
  cases ha : acc F with
  | none =>
    rw [ha] at r1
    exact ⟨m1, by omega, r1⟩
  | some v =>
    rw [ha] at r1
    unfold rc at r1
    by_cases z : v = w
    · simp only [if_pos z] at r1
      refine ⟨m1, by omega, ?_⟩
      unfold jO rc
      simp only [if_pos z, if_true]
      rw [z] at r1
      exact r1
    · simp only [if_neg z] at r1
      unfold jO
      simp only [if_neg z]
      obtain ⟨m2, b2, r2⟩ := S cd' (fun j q1 q2 => (a1 j (by omega) (by omega) (fun y => by
        rcases List.mem_cons.mp y with y | y
        · omega
        · exact hnW j q1 y)).trans (hk j (by omega) q2)) F st hs
      have r2 := Run.up (show c1 ≤ c1 + 2 by omega) _ _ _ r2
      cases hg : g F with
      | none =>
        rw [hg] at r2
        exact ⟨m1 + m2, by omega, Run.t r2 m1 s st r1⟩
      | some y =>
        rw [hg] at r2
        have e1 : cd' c1 = cell := (a1 c1 (by omega) (by omega) (fun y => by
          rcases List.mem_cons.mp y with y | y
          · omega
          · exact hnW c1 cc y)).trans hk1
        have e2 : cd' (c1 + 1) = nI x := a2 (c1 + 1) List.mem_cons_self
        have hD : DC cd' c1 i (nI x) (c1 + 2) ∧ wt i = w ∧ (i = 4 ∨ i = 5) := by
          rcases hi with ⟨rfl, rfl, rfl⟩ | ⟨rfl, rfl, rfl⟩
          · exact ⟨⟨hc, Or.inr (Or.inr (Or.inr (Or.inr (Or.inl ⟨rfl, e1, e2, rfl⟩))))⟩, rfl, Or.inl rfl⟩
          · exact ⟨⟨hc, Or.inr (Or.inr (Or.inr (Or.inr (Or.inr ⟨rfl, e1, e2, rfl⟩))))⟩, rfl, Or.inr rfl⟩
        obtain ⟨hD, ew, hi'⟩ := hD
        refine ⟨m1 + (m2 + 1), by omega, Run.t (Run.t (m' := 1) (pc' := c1) (st' := y :: st) ⟨by omega, by rw [List.length_cons]; omega, i, nI x, c1 + 2, hD, Or.inr (Or.inr (Or.inr (Or.inr ⟨hi', y, st, x, rfl, rfl, h01 F y hg, ?_⟩)))⟩ m2 c st r2) m1 s st r1⟩
        rw [ew]
        unfold rc
        by_cases q : y = w
        · exact Or.inl ⟨q, by simp only [if_pos q]; rfl⟩
        · exact Or.inr ⟨q, by simp only [if_neg q]; rfl⟩
theorem chn_end {cd cd2 : Nat → Int32} {s c c1 h : Nat} {W : List Nat} {w : Int32} {acc g : DN} (H : Chn cd s c W w h acc) (S : SemX DC cd c c1 h g) (sc : s ≤ c) (cc : c ≤ c1) (hW : ∀ j, j ∈ W → j < c) (hk : ∀ j, s ≤ j → j < c1 → j ∉ W → cd2 j = cd j) (hk1 : ∀ j, j ∈ W → s ≤ j ∧ cd2 j = nI c1) : SemX DC cd2 s c1 h (jD w acc g) := by
  intro cd' a1 F st hs
  have hnW : ∀ j, c ≤ j → j ∉ W := fun j hj z => absurd (hW j z) (by omega)
  obtain ⟨m1, b1, r1⟩ := H cd' c1 (fun j q1 q2 q3 => (a1 j q1 (by omega)).trans (hk j q1 (by omega) q3)) (fun j hj => (a1 j (hk1 j hj).1 (by have := hW j hj; omega)).trans (hk1 j hj).2) F st hs
  have r1 := Run.up (show c ≤ c1 by omega) _ _ _ r1
  unfold jD
  cases ha : acc F with
  | none =>
    rw [ha] at r1
    exact ⟨m1, by omega, r1⟩
  | some v =>
    rw [ha] at r1
    unfold rc at r1
    by_cases z : v = w
    · simp only [if_pos z] at r1
      refine ⟨m1, by omega, ?_⟩
      unfold jO
      simp only [if_pos z]
      rw [z] at r1
      exact r1
    · simp only [if_neg z] at r1
      unfold jO
      simp only [if_neg z]
      obtain ⟨m2, b2, r2⟩ := S cd' (fun j q1 q2 => (a1 j (by omega) (by omega)).trans (hk j (by omega) q2 (hnW j q1))) F st hs
      exact ⟨m1 + m2, by omega, Run.t r2 m1 s st r1⟩
/-- the waiting jumps, each holding the one ahead of it -/
def Lnk (cd : Nat → Int32) : List Nat → Int32 → Prop
  | [], x => x = -1
  | a :: W, x => x = nI a ∧ (∀ j, j ∈ W → j < a) ∧ Lnk cd W (cd a)
theorem Lnk.k {cd cd2 : Nat → Int32} : ∀ {W : List Nat} {x : Int32}, Lnk cd W x → (∀ j, j ∈ W → cd2 j = cd j) → Lnk cd2 W x := by
  intro W
  induction W with
  | nil => intro x h _; exact h
  | cons a W ih =>
    intro x h hk
    obtain ⟨h1, h2, h3⟩ := h
    refine ⟨h1, h2, ?_⟩
    rw [hk a List.mem_cons_self]
    exact ih h3 (fun j hj => hk j (List.mem_cons_of_mem _ hj))
theorem aim_loop {N c : Nat} : ∀ (W : List Nat) (k i : Nat) (x : Int32) (σ : Mem), Lnk (mI σ 11) W x → (∀ j, j ∈ W → j < 500) → mI σ 10 1 = nI c → i + W.length ≤ 512 → W.length < k → ∃ σ', L_La_aimHere_b_l4 N k x (nI i) σ = some σ' ∧ (∀ j, j ∈ W → mI σ' 11 j = nI c) ∧ (∀ j, j ∉ W → mI σ' 11 j = mI σ 11 j) ∧ Fr [11] [] σ σ' := by
  intro W
  induction W with
  | nil =>
    intro k i x σ h hW hc hi hk
    obtain ⟨k, rfl⟩ : ∃ z, k = z + 1 := ⟨k - 1, by omega⟩
    have h : x = -1 := h
    subst h
    refine ⟨σ, ?_, fun j hj => absurd hj (by simp), fun j _ => rfl, Fr.rf _ _ _⟩
    show B_La_aimHere_b_l4 N _ _ _ σ = _
    unfold B_La_aimHere_b_l4
    rw [if_neg (show ¬ (513 : Int32) ≤ nI i from nI_ge (b := 513) (by simp at hi; omega) (by decide)), if_pos (by decide)]
  | cons a W ih =>
    intro k i x σ h hW hc hi hk
    obtain ⟨k, rfl⟩ : ∃ z, k = z + 1 := ⟨k - 1, by omega⟩
    obtain ⟨rfl, h2, h3⟩ := h
    rw [List.length_cons] at hi hk
    have ha : a < 500 := hW a List.mem_cons_self
    have haW : a ∉ W := fun z => absurd (h2 a z) (Nat.lt_irrefl _)
    obtain ⟨σ', b1, b2, b3, b4⟩ := ih k (i + 1) (mI σ 11 a) (sI σ 11 a (nI c)) (h3.k (fun j hj => sI_n _ _ (fun z => haW (z.2 ▸ hj)))) (fun j hj => hW j (List.mem_cons_of_mem _ hj)) (by rw [mI_sIn _ _ _ (by decide)]; exact hc) (by omega) (by omega)
    refine ⟨σ', ?_, fun j hj => ?_, fun j hj => ?_, (frA _ _ _ _).t b4⟩
    · rw [← b1]
      show B_La_aimHere_b_l4 N _ _ _ σ = _
      unfold B_La_aimHere_b_l4
      rw [if_neg (show ¬ (513 : Int32) ≤ nI i from nI_ge (b := 513) (by omega) (by decide)), if_neg (nI_pos (by omega)), if_neg (show ¬ (513 : Int32) ≤ nI a from nI_ge (b := 513) (by omega) (by decide)), grd_t (inb_j (by omega) (by decide)), letv_n, grd_t (inb_j (by omega) (by decide)), letv_n, nI_clamp (by omega), hc, letv_n, nI_1]
    · by_cases z : j ∈ W
      · exact b2 j z
      · rcases List.mem_cons.mp hj with rfl | y
        · rw [b3 j z, sI_s]
        · exact absurd y z
    · rw [b3 j (fun z => hj (List.mem_cons_of_mem _ z)), sI_n _ _ (fun z => hj (by rw [z.2]; exact List.mem_cons_self))]
theorem CS.fr {n : Nat} {tx : Nat → Int32} {σ σ' : Mem} {p c : Nat} (h : CS n tx σ p c) (F : Fr [11] [] σ σ') : CS n tx σ' p c := by
  obtain ⟨h1, h2, h3, h4, h5, h6⟩ := h
  exact ⟨by rw [F.I 17 4 (by decide) (by simp)]; exact h1, by rw [F.I 17 3 (by decide) (by simp)]; exact h2, fun j hj => by rw [F.I 18 j (by decide) (by simp)]; exact h3 j hj, by rw [F.I 10 1 (by decide) (by simp)]; exact h4, h5, h6⟩
def JOut (n : Nat) (tx : Nat → Int32) (R : Option (Int32 × Mem)) (σ : Mem) (t d s c p : Nat) (o : Out) : Prop := match o with
  | .inl (k, q) => ∃ σ', R = some (0, σ') ∧ FT n σ' k q
  | .inr (q, g) => ∃ σ' c', R = some (1, σ') ∧ CS n tx σ' q c' ∧ p < q ∧ c < c' ∧ c' + 2 * p ≤ c + 2 * q ∧ (∀ j, j < s → mI σ' 11 j = mI σ 11 j) ∧ SemX DC (mI σ' 11) s c' (hh t d) g ∧ B01 g
theorem cl_PiecesL {N n d : Nat} {tx : Nat → Int32} {M : MT} {G : GT} (hN : 1000 < N) (hT : TX n tx) (hM : CloC tx M) (hd : d ≤ 6) (hG : GSpec n tx M G 2 d) : ∀ (r k : Nat) (x : Int32) (W : List Nat) (σ : Mem) (p c s : Nat) (acc : DN), n - p ≤ r → r < k → W.length ≤ p → s ≤ c → CS n tx σ p c → Chn (mI σ 11) s c W 0 (hh 1 d) acc → Lnk (mI σ 11) W x → (∀ j, j ∈ W → s ≤ j ∧ j < c) → ∃ o, M 1 acc d p o ∧ JOut n tx (L_Rd_readPieces_l4 N G (nI d) k x (nI W.length) σ) σ 1 d s c p o := by
  obtain ⟨m1, m2, m3, -, -, -⟩ := hM
  have hn := hT.1
  intro r
  induction r with
  | zero =>
    intro k x W σ p c s acc hr hk hw hs h hC hL hW
    obtain ⟨k, rfl⟩ : ∃ z, k = z + 1 := ⟨k - 1, by omega⟩
    have hpn : p ≤ n := h.2.2.2.2.1
    show ∃ o, M 1 acc d p o ∧ JOut n tx (B_Rd_readPieces_l4 N G (nI d) (L_Rd_readPieces_l4 N G (nI d) k) x (nI W.length) σ) σ 1 d s c p o
    unfold B_Rd_readPieces_l4
    rw [if_neg (show ¬ (240 : Int32) < nI W.length from nI_nlt (a := 240) (by omega) (by decide))]
    obtain ⟨o2, q1, q2⟩ := hG σ p c h
    have q1 : M 2 nul d p o2 := q1
    match o2, q1, q2 with
    | .inl b, q1, q2 =>
      obtain ⟨kk, q⟩ := b
      obtain ⟨σ2, g1, g2⟩ := q2
      refine ⟨.inl (kk, q), m1 acc d p (kk, q) q1, σ2, ?_, g2⟩
      rw [g1]
      rfl
    | .inr (q, gg), q1, q2 =>
      obtain ⟨σ2, c2, g1, g2, g3, -⟩ := q2
      have := g2.2.2.2.2.1
      omega
  | succ r ih =>
    intro k x W σ p c s acc hr hk hw hs h hC hL hW
    obtain ⟨k, rfl⟩ : ∃ z, k = z + 1 := ⟨k - 1, by omega⟩
    have hpn : p ≤ n := h.2.2.2.2.1
    have hc2 : c ≤ 2 * p := h.2.2.2.2.2
    show ∃ o, M 1 acc d p o ∧ JOut n tx (B_Rd_readPieces_l4 N G (nI d) (L_Rd_readPieces_l4 N G (nI d) k) x (nI W.length) σ) σ 1 d s c p o
    unfold B_Rd_readPieces_l4
    rw [if_neg (show ¬ (240 : Int32) < nI W.length from nI_nlt (a := 240) (by omega) (by decide))]
    obtain ⟨o2, q1, q2⟩ := hG σ p c h
    have q1 : M 2 nul d p o2 := q1
    match o2, q1, q2 with
    | .inl b, q1, q2 =>
      obtain ⟨kk, q⟩ := b
      obtain ⟨σ2, g1, g2⟩ := q2
      refine ⟨.inl (kk, q), m1 acc d p (kk, q) q1, σ2, ?_, g2⟩
      rw [g1]
      rfl
    | .inr (q, gg), q1, q2 =>
      obtain ⟨σ2, c2, g1, g2, g3, g4, g5, g6, g7, g8⟩ := q2
      have g8 := g8 (by decide)
      have hqn : q ≤ n := g2.2.2.2.2.1
      have hc3 : c2 ≤ 2 * q := g2.2.2.2.2.2
      rw [g1]
      simp only [bnd2_n, if_neg ne10]
      rw [rd_sign hT g2]
      simp only [bnd1_n]
      have C1 : Chn (mI σ2 11) s c W 0 (hh 1 d) acc := hC.k (fun j _ hj => g6 j hj)
      have L1 : Lnk (mI σ2 11) W x := hL.k (fun j hj => g6 j (hW j hj).2)
      have S1 : SemX DC (mI σ2 11) c c2 (hh 1 d) gg := g7.up (by unfold hh; simp)
      by_cases e : tx q = 38
      · rw [if_pos e]
        obtain ⟨σ3, a1, a2, a3⟩ := g2.adv (hT.lt (p := q) (by rw [e]; decide))
        simp only [letv, a1]
        unfold f_La_putJump_b
        obtain ⟨σ4, f1, f2, f3⟩ := a2.put hT (by omega) 3
        rw [f1]
        simp only [bnd1_n]
        obtain ⟨σ5, k1, k2, k3⟩ := f2.put hT (by omega) x
        rw [k1]
        simp only [bnd1_n, bnd2_n]
        rw [k2.2.2.2.1, nI_pred, nI_1]
        have e0 : ∀ j, j < c2 → mI σ5 11 j = mI σ2 11 j := fun j hj => by rw [k3, up1_n _ _ (by omega), f3, up1_n _ _ (by omega), a3]
        have e1 : mI σ5 11 c2 = 3 := by rw [k3, up1_n _ _ (by omega), f3, up1_s]
        have e2 : mI σ5 11 (c2 + 1) = x := by rw [k3, up1_s]
        have C2 : Chn (mI σ5 11) s (c2 + 2) ((c2 + 1) :: W) 0 (hh 1 d) (jD 0 acc gg) := chn_step C1 S1 (hh2 1 d) g8 hs (by omega) (fun j hj => (hW j hj).2) (by omega) (Or.inl ⟨rfl, rfl, rfl⟩) (fun j _ hj => e0 j hj) e1
        have L2 : Lnk (mI σ5 11) ((c2 + 1) :: W) (nI (c2 + 1)) := ⟨rfl, fun j hj => by have := (hW j hj).2; omega, by rw [e2]; exact L1.k (fun j hj => e0 j (by have := (hW j hj).2; omega))⟩
        obtain ⟨o, r1, r2⟩ := ih k (nI (c2 + 1)) ((c2 + 1) :: W) σ5 (q + 1) (c2 + 2) s (jD 0 acc gg) (by omega) (by omega) (by rw [List.length_cons]; omega) (by omega) k2 C2 L2 (fun j hj => by
          rcases List.mem_cons.mp hj with rfl | y
          · omega
          · have := hW j y; omega)
        refine ⟨o, m3 acc d p q gg o q1 e r1, ?_⟩
        match o, r2 with
        | .inl b, r2 => exact r2
        | .inr (q', g'), r2 =>
          obtain ⟨σ6, c6, t1, t2, t3, t4, t5, t6, t7, t8⟩ := r2
          exact ⟨σ6, c6, t1, t2, by omega, by omega, by omega, fun j hj => (t6 j hj).trans ((e0 j (by omega)).trans (g6 j (by omega))), t7, t8⟩
      · rw [if_neg e]
        unfold f_La_aimHere_b
        obtain ⟨σ3, b1, b2, b3, b4⟩ := aim_loop (N := N) W N 0 x σ2 L1 (fun j hj => by have := (hW j hj).2; omega) g2.2.2.2.1 (by omega) (by omega)
        have b1 : L_La_aimHere_b_l4 N N x 0 σ2 = some σ3 := b1
        rw [b1]
        simp only [bnd1_n]
        refine ⟨.inr (q, jD 0 acc gg), m2 acc d p q gg q1 e, σ3, c2, rfl, g2.fr b4, g3, g4, g5, fun j hj => ?_, ?_, B01.j (Or.inl rfl) g8⟩
        · rw [b3 j (fun z => by have := (hW j z).1; omega)]
          exact g6 j (by omega)
        · exact chn_end C1 S1 hs (by omega) (fun j hj => (hW j hj).2) (fun j _ _ z => b3 j z) (fun j hj => ⟨(hW j hj).1, b2 j hj⟩)
theorem cl_Pieces {N n d : Nat} {tx : Nat → Int32} {M : MT} {G : GT} (hN : 1000 < N) (hT : TX n tx) (hM : CloC tx M) (hd : d ≤ 6) (hG : GSpec n tx M G 2 d) (σ : Mem) (p c : Nat) (h : CS n tx σ p c) : ∃ o, M 1 (lcst 1) d p o ∧ COut n tx (f_Rd_readPieces N G σ (nI d)) σ 1 d c p o := by
  have hn := hT.1
  unfold f_Rd_readPieces
  obtain ⟨o, r1, r2⟩ := cl_PiecesL hN hT hM hd hG (n - p) N (-1) [] σ p c c (lcst 1) (Nat.le_refl _) (by omega) (by simp) (Nat.le_refl _) h (chn_base (by decide)) rfl (fun j hj => absurd hj (by simp))
  have r2 : JOut n tx (L_Rd_readPieces_l4 N G (nI d) N (-1) 0 σ) σ 1 d c c p o := r2
  refine ⟨o, r1, ?_⟩
  match o, r2 with
  | .inl b, r2 => exact r2
  | .inr (q', g'), r2 =>
    obtain ⟨σ6, c6, t1, t2, t3, t4, t5, t6, t7, t8⟩ := r2
    exact ⟨σ6, c6, t1, t2, t3, t4, t5, t6, t7, fun _ => t8⟩
theorem cl_PartsL {N n d : Nat} {tx : Nat → Int32} {M : MT} {G : GT} (hN : 1000 < N) (hT : TX n tx) (hM : CloC tx M) (hd : d ≤ 6) (hG : GSpec n tx M G 1 d) : ∀ (r k : Nat) (x : Int32) (W : List Nat) (σ : Mem) (p c s : Nat) (acc : DN), n - p ≤ r → r < k → W.length ≤ p → s ≤ c → CS n tx σ p c → Chn (mI σ 11) s c W 1 (hh 0 d) acc → Lnk (mI σ 11) W x → (∀ j, j ∈ W → s ≤ j ∧ j < c) → ∃ o, M 0 acc d p o ∧ JOut n tx (L_Rd_readParts_l4 N G (nI d) k x (nI W.length) σ) σ 0 d s c p o := by
  obtain ⟨-, -, -, m1, m2, m3⟩ := hM
  have hn := hT.1
  intro r
  induction r with
  | zero =>
    intro k x W σ p c s acc hr hk hw hs h hC hL hW
    obtain ⟨k, rfl⟩ : ∃ z, k = z + 1 := ⟨k - 1, by omega⟩
    have hpn : p ≤ n := h.2.2.2.2.1
    show ∃ o, M 0 acc d p o ∧ JOut n tx (B_Rd_readParts_l4 N G (nI d) (L_Rd_readParts_l4 N G (nI d) k) x (nI W.length) σ) σ 0 d s c p o
    unfold B_Rd_readParts_l4
    rw [if_neg (show ¬ (240 : Int32) < nI W.length from nI_nlt (a := 240) (by omega) (by decide))]
    obtain ⟨o2, q1, q2⟩ := hG σ p c h
    have q1 : M 1 (lcst 1) d p o2 := q1
    match o2, q1, q2 with
    | .inl b, q1, q2 =>
      obtain ⟨kk, q⟩ := b
      obtain ⟨σ2, g1, g2⟩ := q2
      refine ⟨.inl (kk, q), m1 acc d p (kk, q) q1, σ2, ?_, g2⟩
      rw [g1]
      rfl
    | .inr (q, gg), q1, q2 =>
      obtain ⟨σ2, c2, g1, g2, g3, -⟩ := q2
      have := g2.2.2.2.2.1
      omega
  | succ r ih =>
    intro k x W σ p c s acc hr hk hw hs h hC hL hW
    obtain ⟨k, rfl⟩ : ∃ z, k = z + 1 := ⟨k - 1, by omega⟩
    have hpn : p ≤ n := h.2.2.2.2.1
    have hc2 : c ≤ 2 * p := h.2.2.2.2.2
    show ∃ o, M 0 acc d p o ∧ JOut n tx (B_Rd_readParts_l4 N G (nI d) (L_Rd_readParts_l4 N G (nI d) k) x (nI W.length) σ) σ 0 d s c p o
    unfold B_Rd_readParts_l4
    rw [if_neg (show ¬ (240 : Int32) < nI W.length from nI_nlt (a := 240) (by omega) (by decide))]
    obtain ⟨o2, q1, q2⟩ := hG σ p c h
    have q1 : M 1 (lcst 1) d p o2 := q1
    match o2, q1, q2 with
    | .inl b, q1, q2 =>
      obtain ⟨kk, q⟩ := b
      obtain ⟨σ2, g1, g2⟩ := q2
      refine ⟨.inl (kk, q), m1 acc d p (kk, q) q1, σ2, ?_, g2⟩
      rw [g1]
      rfl
    | .inr (q, gg), q1, q2 =>
      obtain ⟨σ2, c2, g1, g2, g3, g4, g5, g6, g7, g8⟩ := q2
      have g8 := g8 (by decide)
      have hqn : q ≤ n := g2.2.2.2.2.1
      have hc3 : c2 ≤ 2 * q := g2.2.2.2.2.2
      rw [g1]
      simp only [bnd2_n, if_neg ne10]
      rw [rd_sign hT g2]
      simp only [bnd1_n]
      have C1 : Chn (mI σ2 11) s c W 1 (hh 0 d) acc := hC.k (fun j _ hj => g6 j hj)
      have L1 : Lnk (mI σ2 11) W x := hL.k (fun j hj => g6 j (hW j hj).2)
      have S1 : SemX DC (mI σ2 11) c c2 (hh 0 d) gg := g7.up (by unfold hh; simp)
      by_cases e : tx q = 124
      · rw [if_pos e]
        obtain ⟨σ3, a1, a2, a3⟩ := g2.adv (hT.lt (p := q) (by rw [e]; decide))
        simp only [letv, a1]
        unfold f_La_putJump_b
        obtain ⟨σ4, f1, f2, f3⟩ := a2.put hT (by omega) 4
        rw [f1]
        simp only [bnd1_n]
        obtain ⟨σ5, k1, k2, k3⟩ := f2.put hT (by omega) x
        rw [k1]
        simp only [bnd1_n, bnd2_n]
        rw [k2.2.2.2.1, nI_pred, nI_1]
        have e0 : ∀ j, j < c2 → mI σ5 11 j = mI σ2 11 j := fun j hj => by rw [k3, up1_n _ _ (by omega), f3, up1_n _ _ (by omega), a3]
        have e1 : mI σ5 11 c2 = 4 := by rw [k3, up1_n _ _ (by omega), f3, up1_s]
        have e2 : mI σ5 11 (c2 + 1) = x := by rw [k3, up1_s]
        have C2 : Chn (mI σ5 11) s (c2 + 2) ((c2 + 1) :: W) 1 (hh 0 d) (jD 1 acc gg) := chn_step C1 S1 (hh2 0 d) g8 hs (by omega) (fun j hj => (hW j hj).2) (by omega) (Or.inr ⟨rfl, rfl, rfl⟩) (fun j _ hj => e0 j hj) e1
        have L2 : Lnk (mI σ5 11) ((c2 + 1) :: W) (nI (c2 + 1)) := ⟨rfl, fun j hj => by have := (hW j hj).2; omega, by rw [e2]; exact L1.k (fun j hj => e0 j (by have := (hW j hj).2; omega))⟩
        obtain ⟨o, r1, r2⟩ := ih k (nI (c2 + 1)) ((c2 + 1) :: W) σ5 (q + 1) (c2 + 2) s (jD 1 acc gg) (by omega) (by omega) (by rw [List.length_cons]; omega) (by omega) k2 C2 L2 (fun j hj => by
          rcases List.mem_cons.mp hj with rfl | y
          · omega
          · have := hW j y; omega)
        refine ⟨o, m3 acc d p q gg o q1 e r1, ?_⟩
        match o, r2 with
        | .inl b, r2 => exact r2
        | .inr (q', g'), r2 =>
          obtain ⟨σ6, c6, t1, t2, t3, t4, t5, t6, t7, t8⟩ := r2
          exact ⟨σ6, c6, t1, t2, by omega, by omega, by omega, fun j hj => (t6 j hj).trans ((e0 j (by omega)).trans (g6 j (by omega))), t7, t8⟩
      · rw [if_neg e]
        unfold f_La_aimHere_b
        obtain ⟨σ3, b1, b2, b3, b4⟩ := aim_loop (N := N) W N 0 x σ2 L1 (fun j hj => by have := (hW j hj).2; omega) g2.2.2.2.1 (by omega) (by omega)
        have b1 : L_La_aimHere_b_l4 N N x 0 σ2 = some σ3 := b1
        rw [b1]
        simp only [bnd1_n]
        refine ⟨.inr (q, jD 1 acc gg), m2 acc d p q gg q1 e, σ3, c2, rfl, g2.fr b4, g3, g4, g5, fun j hj => ?_, ?_, B01.j (Or.inr rfl) g8⟩
        · rw [b3 j (fun z => by have := (hW j z).1; omega)]
          exact g6 j (by omega)
        · exact chn_end C1 S1 hs (by omega) (fun j hj => (hW j hj).2) (fun j _ _ z => b3 j z) (fun j hj => ⟨(hW j hj).1, b2 j hj⟩)
theorem cl_Parts {N n d : Nat} {tx : Nat → Int32} {M : MT} {G : GT} (hN : 1000 < N) (hT : TX n tx) (hM : CloC tx M) (hd : d ≤ 6) (hG : GSpec n tx M G 1 d) (σ : Mem) (p c : Nat) (h : CS n tx σ p c) : ∃ o, M 0 (lcst 0) d p o ∧ COut n tx (f_Rd_readParts N G σ (nI d)) σ 0 d c p o := by
  have hn := hT.1
  unfold f_Rd_readParts
  obtain ⟨o, r1, r2⟩ := cl_PartsL hN hT hM hd hG (n - p) N (-1) [] σ p c c (lcst 0) (Nat.le_refl _) (by omega) (by simp) (Nat.le_refl _) h (chn_base (by decide)) rfl (fun j hj => absurd hj (by simp))
  have r2 : JOut n tx (L_Rd_readParts_l4 N G (nI d) N (-1) 0 σ) σ 0 d c c p o := r2
  refine ⟨o, r1, ?_⟩
  match o, r2 with
  | .inl b, r2 => exact r2
  | .inr (q', g'), r2 =>
    obtain ⟨σ6, c6, t1, t2, t3, t4, t5, t6, t7, t8⟩ := r2
    exact ⟨σ6, c6, t1, t2, t3, t4, t5, t6, t7, fun _ => t8⟩
theorem isCm_ne {c : Int32} (h : isCm c) : c ≠ -1 := fun e => by rw [e] at h; exact absurd h (by decide)
theorem cl_piece {N n d : Nat} {tx : Nat → Int32} {M : MT} {G : GT} (hN : 1000 < N) (hT : TX n tx) (hM : CloP tx M) (hd : d ≤ 6) (hG3 : GSpec n tx M G 3 d) (hG2 : d < 6 → GSpec n tx M G 2 (d + 1)) (hG0 : d < 6 → GSpec n tx M G 0 (d + 1)) (σ : Mem) (p c : Nat) (h : CS n tx σ p c) : ∃ o, M 2 nul d p o ∧ COut n tx (f_Rd_readPiece N G σ (nI d)) σ 2 d c p o := by
  obtain ⟨m1, m2, m3, m4, m5, m6, m7, m8, m9, m10, m11⟩ := hM
  have hn := hT.1
  have hp2 : p ≤ n := h.2.2.2.2.1
  have hc2 : c ≤ 2 * p := h.2.2.2.2.2
  unfold f_Rd_readPiece
  rw [rd_sign hT h]
  simp only [bnd1_n]
  by_cases e33 : tx p = 33
  · rw [if_pos e33]
    have hp : p < n := hT.lt (by rw [e33]; decide)
    rcases rd_deep (d := d) h hp hd with ⟨z, σ1, a1, a2, a3⟩ | ⟨z, σ1, a1, a2⟩
    · rw [a1]
      simp only [bnd2_n, if_neg ne10, nI_1]
      obtain ⟨o, b1, b2⟩ := hG2 z σ1 (p + 1) c a2
      have b1 : M 2 nul (d + 1) (p + 1) o := b1
      match o, b1, b2 with
      | .inl b, b1, b2 =>
        obtain ⟨k, q⟩ := b
        obtain ⟨σ2, g1, g2⟩ := b2
        refine ⟨.inl (k, q), m2 d p (k, q) e33 z b1, σ2, ?_, g2⟩
        rw [g1]
        rfl
      | .inr (q, g), b1, b2 =>
        obtain ⟨σ2, c2, g1, g2, g3, g4, g5, g6, g7, g8⟩ := b2
        rw [g1]
        simp only [bnd2_n, if_neg ne10]
        obtain ⟨σ3, f1, f2, f3⟩ := g2.put hT (by omega) 5
        rw [f1]
        simp only [bnd1_n]
        have hqn : q ≤ n := g2.2.2.2.2.1
        have hc3 : c2 ≤ 2 * q := g2.2.2.2.2.2
        refine ⟨.inr (q, notD g), m3 d p q g e33 z b1, σ3, c2 + 1, rfl, f2, by omega, by omega, by omega, fun j hj => ?_, ?_, fun _ => (g8 (by decide)).not⟩
        · rw [f3, up1_n _ _ (by omega), g6 j hj, a3]
        · have S1 : SemX DC (mI σ3 11) c c2 (hh 2 d) g := (g7.k (fun j h1 h2 => by rw [f3, up1_n _ _ (by omega)])).up (by unfold hh; simp; omega)
          exact sem_not (v := 0) S1 (hh2 2 d) (by omega) (by omega) (fun cd' hcd => ⟨by omega, Or.inr (Or.inr (Or.inr (Or.inl ⟨rfl, by rw [hcd c2 (by omega) (by omega), f3, up1_s], rfl⟩)))⟩)
    · refine ⟨.inl (5, p), m1 d p e33 z, σ1, ?_, a2⟩
      rw [a1]
      rfl
  · rw [if_neg e33]
    by_cases e40 : tx p = 40
    · rw [if_pos e40]
      have hp : p < n := hT.lt (by rw [e40]; decide)
      rcases rd_deep (d := d) h hp hd with ⟨z, σ1, a1, a2, a3⟩ | ⟨z, σ1, a1, a2⟩
      · rw [a1]
        simp only [bnd2_n, if_neg ne10, nI_1]
        obtain ⟨o, b1, b2⟩ := hG0 z σ1 (p + 1) c a2
        have b1 : M 0 (lcst 0) (d + 1) (p + 1) o := b1
        match o, b1, b2 with
        | .inl b, b1, b2 =>
          obtain ⟨k, q⟩ := b
          obtain ⟨σ2, g1, g2⟩ := b2
          refine ⟨.inl (k, q), m5 d p (k, q) e40 z b1, σ2, ?_, g2⟩
          rw [g1]
          rfl
        | .inr (q, g), b1, b2 =>
          obtain ⟨σ2, c2, g1, g2, g3, g4, g5, g6, g7, g8⟩ := b2
          rw [g1]
          simp only [bnd2_n, if_neg ne10]
          rcases rd_step hT g2 (ch := 41) (by decide) with ⟨y, σ3, s1, s2, s3⟩ | ⟨y, σ3, s1, s2⟩
          · refine ⟨.inr (q + 1, g), m7 d p q g e40 z b1 y, σ3, c2, ?_, s2, by omega, g4, by omega, fun j hj => ?_, ?_, fun _ => g8 (by decide)⟩
            · rw [s1]
              rfl
            · rw [s3, g6 j hj, a3]
            · rw [s3]
              exact g7.up (by unfold hh; simp; omega)
          · refine ⟨.inl (1, q), m6 d p q g e40 z b1 y, σ3, ?_, s2⟩
            rw [s1]
            rfl
      · refine ⟨.inl (5, p), m4 d p e40 z, σ1, ?_, a2⟩
        rw [a1]
        rfl
    · rw [if_neg e40]
      obtain ⟨o, b1, b2⟩ := hG3 σ p c h
      have b1 : M 3 nul d p o := b1
      match o, b1, b2 with
      | .inl b, b1, b2 =>
        obtain ⟨k, q⟩ := b
        obtain ⟨σ2, g1, g2⟩ := b2
        refine ⟨.inl (k, q), m8 d p (k, q) e33 e40 b1, σ2, ?_, g2⟩
        rw [g1]
        rfl
      | .inr (q, g), b1, b2 =>
        obtain ⟨σ2, c2, g1, g2, g3, g4, g5, g6, g7, -⟩ := b2
        rw [g1]
        simp only [bnd2_n, if_neg ne10]
        rcases one_s1 (N := N) (by omega) hT g2 with ⟨y1, y2⟩ | ⟨y1, y2⟩
        · rw [y1]
          simp only [bnd1_n, if_neg ne10]
          rw [rd_sign hT g2]
          simp only [bnd1_n]
          obtain ⟨σ3, a1, a2, a3⟩ := g2.adv (hT.lt (isCm_ne y2))
          simp only [letv, a1]
          obtain ⟨o, d1, d2⟩ := hG3 σ3 (q + 1) c2 a2
          have d1 : M 3 nul d (q + 1) o := d1
          match o, d1, d2 with
          | .inl b, d1, d2 =>
            obtain ⟨k, q'⟩ := b
            obtain ⟨σ4, k1, k2⟩ := d2
            refine ⟨.inl (k, q'), m10 d p q g (k, q') e33 e40 b1 y2 d1, σ4, ?_, k2⟩
            rw [k1]
            rfl
          | .inr (q', g'), d1, d2 =>
            obtain ⟨σ4, c4, k1, k2, k3, k4, k5, k6, k7, -⟩ := d2
            rw [k1]
            simp only [bnd2_n, if_neg ne10]
            obtain ⟨σ5, f1, f2, f3⟩ := k2.put hT (by omega) (tx q)
            rw [f1]
            simp only [bnd1_n]
            have hqn : q' ≤ n := k2.2.2.2.2.1
            have hc3 : c4 ≤ 2 * q' := k2.2.2.2.2.2
            refine ⟨.inr (q', binD (tx q) g g'), m11 d p q g q' g' e33 e40 b1 y2 d1, σ5, c4 + 1, rfl, f2, by omega, by omega, by omega, fun j hj => ?_, ?_, fun _ => B01.bin y2⟩
            · rw [f3, up1_n _ _ (by omega), k6 j (by omega), a3, g6 j hj]
            · have S1 : SemX DC (mI σ5 11) c c2 (hh 3 d) g := g7.k (fun j h1 h2 => by rw [f3, up1_n _ _ (by omega), k6 j (by omega), a3])
              have S2 : SemX DC (mI σ5 11) c2 c4 (hh 3 d) g' := k7.k (fun j h1 h2 => by rw [f3, up1_n _ _ (by omega)])
              exact sem_bin S1 S2 (by unfold hh; simp) (by unfold hh; simp) (hh2 3 d) (by omega) (by omega) (by omega) (fun cd' hcd => ⟨by omega, Or.inr (Or.inr (Or.inl ⟨rfl, by rw [hcd c4 (by omega) (by omega), f3, up1_s], Or.inr (Or.inr y2), rfl⟩))⟩)
        · rw [y1]
          simp only [bnd1_n, if_true]
          obtain ⟨σ3, f1, f2⟩ := rd_fail g2 1 (by decide)
          refine ⟨.inl (1, q), m9 d p q g e33 e40 b1 y2, σ3, ?_, f2⟩
          rw [show (1 : Int32) = nI 1 from rfl, f1]
          rfl
theorem cl_rd {N n : Nat} {tx : Nat → Int32} {M : MT} (hN : 1000 < N) (hT : TX n tx) (hM : Clo tx M) : ∀ (k t d : Nat), t < 6 → d ≤ 6 → (6 - t) + 3 * (6 - d) ≤ k → GSpec n tx M (rd N k) t d := by
  obtain ⟨m1, m2, m3, m4, m5⟩ := hM
  intro k
  induction k with
  | zero => intro t d ht hd hk; omega
  | succ k ih =>
    intro t d ht hd hk σ p c h
    rcases (show t = 0 ∨ t = 1 ∨ t = 2 ∨ t = 3 ∨ t = 4 ∨ t = 5 by omega) with rfl | rfl | rfl | rfl | rfl | rfl
    · exact cl_Parts hN hT m5 hd (ih 1 d (by omega) hd (by omega)) σ p c h
    · exact cl_Pieces hN hT m5 hd (ih 2 d (by omega) hd (by omega)) σ p c h
    · exact cl_piece hN hT m4 hd (ih 3 d (by omega) hd (by omega)) (fun z => ih 2 (d + 1) (by omega) (by omega) (by omega)) (fun z => ih 0 (d + 1) (by omega) (by omega) (by omega)) σ p c h
    · exact cl_Sum hN hT m3 hd (ih 4 d (by omega) hd (by omega)) σ p c h
    · exact cl_Term hN hT m2 hd (ih 5 d (by omega) hd (by omega)) σ p c h
    · exact cl_fac hN hT m1 hd (fun z => ih 3 (d + 1) (by omega) (by omega) (by omega)) σ p c h
