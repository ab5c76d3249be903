-- ===== the reference: clauses, laws =====
theorem MS.re {n : Nat} {tx : Nat → Int32} {σ σ' : Mem} {W : List (Nat × Nat)} {d p c : Nat} (h : MS n tx σ W d p c) (F : Fr [75, 76, 77, 78] [(65, 18)] σ σ') : MS n tx σ' W d p c := by
  obtain ⟨h1, h2, h3, h4, h5, h6, h7, h8⟩ := h
  refine ⟨?_, ?_, fun j hj => ?_, ?_, ?_, ?_, ?_, h8⟩
  · rw [F.I 65 12 (by decide) (by decide)]; exact h1
  · rw [F.I 65 13 (by decide) (by decide)]; exact h2
  · rw [F.I 72 j (by decide) (by simp)]; exact h3 j hj
  · rw [F.I 65 15 (by decide) (by decide)]; exact h4
  · rw [F.I 65 16 (by decide) (by decide)]; exact h5
  · rw [F.I 65 17 (by decide) (by decide)]; exact h6
  · rw [F.rowI 74 (by decide) (by decide)]; exact h7
/-- nothing open, nothing waits -/
theorem MS.fresh {n : Nat} {tx : Nat → Int32} {σ : Mem} {W : List (Nat × Nat)} {d p c : Nat} (h : MS n tx σ W d p c) : MS n tx (sI (sI σ 65 15 0) 65 17 0) [] 0 p c := by
  obtain ⟨h1, h2, h3, h4, h5, h6, h7, h8⟩ := h
  refine ⟨?_, ?_, fun j hj => ?_, ?_, ?_, ?_, True.intro, h8⟩
  · rw [sI_n _ _ (by omega), sI_n _ _ (by omega)]; exact h1
  · rw [sI_n _ _ (by omega), sI_n _ _ (by omega)]; exact h2
  · rw [mI_sIn _ _ _ (by decide), mI_sIn _ _ _ (by decide)]; exact h3 j hj
  · rw [sI_n _ _ (by omega), sI_s]; rfl
  · rw [sI_n _ _ (by omega), sI_n _ _ (by omega)]; exact h5
  · rw [sI_s]; rfl
/-- where a clause begins: what is open and what waits does not matter -/
def MS0 (n : Nat) (tx : Nat → Int32) (σ : Mem) (p c : Nat) : Prop := mI σ 65 12 = nI p ∧ mI σ 65 13 = nI n ∧ (∀ j, j < n → mI σ 72 j &&& 255 = tx j) ∧ mI σ 65 16 = nI c ∧ p ≤ n
theorem MS.z {n : Nat} {tx : Nat → Int32} {σ : Mem} {W : List (Nat × Nat)} {d p c : Nat} (h : MS n tx σ W d p c) : MS0 n tx σ p c := ⟨h.1, h.2.1, h.2.2.1, h.2.2.2.2.1, h.2.2.2.2.2.2.2⟩
theorem MS0.here {n : Nat} {tx : Nat → Int32} (hT : TX n tx) {σ : Mem} {p c : Nat} (h : MS0 n tx σ p c) : f_Mo_here σ = some (tx p) := by
  obtain ⟨h1, h2, h3, h5, h8⟩ := h
  have hn := hT.1
  unfold f_Mo_here
  rw [h1, h2]
  rcases Nat.lt_or_ge p n with z | z
  · rw [if_neg (nI_ge z (by omega)), grd_t (inb_j (by omega) (by decide)), nI_clamp (by omega), h3 p z]
  · rw [if_pos (nI_le z (by omega)), hT.2.2 p z]
theorem MS0.re {n : Nat} {tx : Nat → Int32} {σ σ' : Mem} {p c : Nat} (h : MS0 n tx σ p c) (F : Fr [75, 76, 77, 78] [(65, 18)] σ σ') : MS0 n tx σ' p c := by
  obtain ⟨h1, h2, h3, h5, h8⟩ := h
  refine ⟨?_, ?_, fun j hj => ?_, ?_, h8⟩
  · rw [F.I 65 12 (by decide) (by decide)]; exact h1
  · rw [F.I 65 13 (by decide) (by decide)]; exact h2
  · rw [F.I 72 j (by decide) (by simp)]; exact h3 j hj
  · rw [F.I 65 16 (by decide) (by decide)]; exact h5
theorem MS0.adv {n : Nat} {tx : Nat → Int32} {σ : Mem} {p c : Nat} (h : MS0 n tx σ p c) (hp : p < n) : ∃ σ', sI σ 65 12 (mI σ 65 12 + 1) = σ' ∧ MS0 n tx σ' (p + 1) c ∧ mI σ' 73 = mI σ 73 := by
  obtain ⟨h1, h2, h3, h5, h8⟩ := h
  refine ⟨_, rfl, ⟨?_, ?_, fun j hj => ?_, ?_, hp⟩, ?_⟩
  · rw [sI_s, h1, nI_1]
  · rw [sI_n _ _ (by omega)]; exact h2
  · rw [mI_sIn _ _ _ (by decide)]; exact h3 j hj
  · rw [sI_n _ _ (by omega)]; exact h5
  · rw [mI_sIn _ _ _ (by decide)]
theorem MS0.fresh {n : Nat} {tx : Nat → Int32} {σ : Mem} {p c : Nat} (h : MS0 n tx σ p c) : MS n tx (sI (sI σ 65 15 0) 65 17 0) [] 0 p c := by
  obtain ⟨h1, h2, h3, h5, h8⟩ := h
  refine ⟨?_, ?_, fun j hj => ?_, ?_, ?_, ?_, True.intro, h8⟩
  · rw [sI_n _ _ (by omega), sI_n _ _ (by omega)]; exact h1
  · rw [sI_n _ _ (by omega), sI_n _ _ (by omega)]; exact h2
  · rw [mI_sIn _ _ _ (by decide), mI_sIn _ _ _ (by decide)]; exact h3 j hj
  · rw [sI_n _ _ (by omega), sI_s]; rfl
  · rw [sI_n _ _ (by omega), sI_n _ _ (by omega)]; exact h5
  · rw [sI_s]; rfl
def DOut (n : Nat) (tx : Nat → Int32) (R : Option (Int32 × Mem)) (σ : Mem) (q c : Nat) (o : Out) : Prop := match o with
  | .inl (k, r) => ∃ σ', R = some (0, σ') ∧ mI σ' 65 14 = (-1000) * nI k - nI r
  | .inr (r, g) => ∃ σ' c', R = some (1, σ') ∧ MS n tx σ' [] 0 r c' ∧ c' ≤ r ∧ c ≤ c' ∧ q < r ∧ (∀ j, j < c → mI σ' 73 j = mI σ 73 j) ∧ SemX DM (mI σ' 73) c c' (hh 0 1) g ∧ B01 g
section SimL
variable {N n : Nat} {tx : Nat → Int32}
theorem mo_cond (hN : 1000 < N) (hT : TX n tx) {q : Nat} {o : Out} (R : RCond tx (SimM N n tx) q o) {σ : Mem} {W : List (Nat × Nat)} {d c : Nat} (h : MS n tx σ W d q c) (hc : c ≤ q) : DOut n tx (f_Mo_readsCondition N σ) σ q c o := by
  have hn := hT.1
  by_cases e40 : tx q = 40
  · have hq : q < n := hT.lt (by rw [e40]; decide)
    have H0 := h.fresh
    have e0 : mI (sI (sI σ 65 15 0) 65 17 0) 73 = mI σ 73 := by rw [mI_sIn _ _ _ (by decide), mI_sIn _ _ _ (by decide)]
    rcases mo_opens H0 hn hq (by decide) (by decide) (o := 13) (x := 13) (by decide) rfl with ⟨-, σ1, a1, a2, a3⟩ | ⟨z, -⟩
    · have hgo : f_Mo_readsCondition N σ = L_Mo_readsCondition_l40 N N σ1 := by
        unfold f_Mo_readsCondition
        rw [mo_here hT h]
        simp only [bnd1_n]
        rw [if_pos e40, letv_n, letv_n, a1]
        simp only [bnd2_n, if_neg ne10]
      have hS : ∀ o', SimM N n tx 0 (lcst 0) 1 (q + 1) o' → QOut N n tx (f_Mo_readsCondition N σ) σ [(13, 0)] 1 q c 0 0 1 o' := by
        intro o' S
        have S : SimPar N n tx (lcst 0) 1 (q + 1) o' := S
        exact (S σ1 [(13, 0)] c c 0 N [] a2 (Or.inl ⟨rfl, rfl, rfl⟩) (by omega) (by simp) (by simp) (by decide) rfl (by omega)).mono hgo (by omega) (fun j _ => by rw [a3, e0])
      rcases R with ⟨z, -⟩ | ⟨-, b, S, rfl⟩ | ⟨-, r, g, S, hr, rfl⟩ | ⟨-, r, g, S, hr, rfl⟩
      · exact absurd e40 z
      · obtain ⟨k, r⟩ := b
        exact hS _ S
      · obtain ⟨k92, k40, σ', c', Q, b1, b2, b3, b4, b5, b6, b7, b8, b9, d1, d2, d3, d4, d5, d6⟩ := hS _ S
        obtain ⟨k92, rfl⟩ : ∃ z, k92 = z + 1 := ⟨k92 - 1, by omega⟩
        obtain ⟨σ2, c1, c2⟩ := ap_bad (N := N) (k := k92) (k40 := k40) (mo_here hT b4) hr d5 (d6 rfl) b4.1
        exact ⟨σ2, b1.trans c1, c2⟩
      · obtain ⟨k92, k40, σ', c', Q, b1, b2, b3, b4, b5, b6, b7, b8, b9, d1, d2, d3, d4, d5, d6⟩ := hS _ S
        have hrn : r < n := hT.lt (by rw [hr]; decide)
        obtain ⟨k92, rfl⟩ : ∃ z, k92 = z + 1 := ⟨k92 - 1, by omega⟩
        obtain ⟨σ4, c1, c2, c3, c4⟩ := par_shut (N := N) (k92 := k92) (k40 := k40) hN hT hr b4 (by omega) (by omega) d2
        rw [if_pos (show mI σ4 65 17 = 0 from c2.2.2.2.2.2.1)] at c1
        exact ⟨σ4, c', b1.trans c1, c2, by omega, b7, by omega, fun j hj => (c4 j (fun w hw => by have := d3 w hw; omega)).trans (b9 j hj), d1 (mI σ4 73) (fun j _ _ q3 => c4 j q3) c3, d4⟩
    · omega
  · rcases R with ⟨-, rfl⟩ | ⟨z, -⟩ | ⟨z, -⟩ | ⟨z, -⟩
    · obtain ⟨σ', w1, w2⟩ := mo_wr h.1 1 1 rfl
      refine ⟨σ', ?_, w2⟩
      unfold f_Mo_readsCondition
      rw [mo_here hT h]
      simp only [bnd1_n]
      rw [if_neg e40]
      exact w1
    · exact absurd z e40
    · exact absurd z e40
    · exact absurd z e40
theorem is_cl (c : Int32) : f_Mo_isClause c = some (if isCl c then 1 else 0) := by
  unfold f_Mo_isClause
  by_cases z0 : c = 117
  · rw [if_pos z0, if_pos (Or.inl z0)]
  by_cases z1 : c = 101
  · rw [if_neg z0, if_pos z1, if_pos (Or.inr (Or.inl z1))]
  by_cases z2 : c = 110
  · rw [if_neg z0, if_neg z1, if_pos z2, if_pos (Or.inr (Or.inr (Or.inl z2)))]
  by_cases z3 : c = 99
  · rw [if_neg z0, if_neg z1, if_neg z2, if_pos z3, if_pos (Or.inr (Or.inr (Or.inr (Or.inl z3))))]
  by_cases z4 : c = 112
  · rw [if_neg z0, if_neg z1, if_neg z2, if_neg z3, if_pos z4, if_pos (Or.inr (Or.inr (Or.inr (Or.inr (Or.inl z4)))))]
  by_cases z5 : c = 119
  · rw [if_neg z0, if_neg z1, if_neg z2, if_neg z3, if_neg z4, if_pos z5, if_pos (Or.inr (Or.inr (Or.inr (Or.inr (Or.inr (Or.inl z5))))))]
  by_cases z6 : c = 103
  · rw [if_neg z0, if_neg z1, if_neg z2, if_neg z3, if_neg z4, if_neg z5, if_pos z6, if_pos (Or.inr (Or.inr (Or.inr (Or.inr (Or.inr (Or.inr z6))))))]
  rw [if_neg z0, if_neg z1, if_neg z2, if_neg z3, if_neg z4, if_neg z5, if_neg z6, if_neg (fun z => by rcases z with z | z | z | z | z | z | z <;> contradiction)]
def MK (σ : Mem) (i : Nat) (cl : Cl) (c : Nat) : Prop := mI σ 75 i = cl.1 ∧ ∃ s e e2, mI σ 76 i = nI s ∧ mI σ 77 i = nI e ∧ mI σ 78 i = nI e2 ∧ s ≤ e ∧ e ≤ e2 ∧ e2 ≤ c ∧ SemX DM (mI σ 73) e e2 (hh 0 1) cl.2.2 ∧ (cl.1 ≠ 117 → SemX DM (mI σ 73) s e (hh 3 0) cl.2.1)
theorem MK.k {σ σ' : Mem} {i : Nat} {cl : Cl} {c c' : Nat} (h : MK σ i cl c) (h1 : mI σ' 75 i = mI σ 75 i) (h2 : mI σ' 76 i = mI σ 76 i) (h3 : mI σ' 77 i = mI σ 77 i) (h4 : mI σ' 78 i = mI σ 78 i) (hc : c ≤ c') (hk : ∀ j, j < c → mI σ' 73 j = mI σ 73 j) : MK σ' i cl c' := by
  obtain ⟨q1, s, e, e2, a1, a2, a3, a4, a5, a6, a7, a8⟩ := h
  exact ⟨h1.trans q1, s, e, e2, h2.trans a1, h3.trans a2, h4.trans a3, a4, a5, by omega, a7.k (fun j _ hj => hk j (by omega)), fun z => (a8 z).k (fun j _ hj => hk j (by omega))⟩
def ClT (N : Nat) (σ9b_ : Mem) : Option (Int32 × Mem) :=
    (grd (inb (mI σ9b_ 65 18) 16) <|
    letv (sI σ9b_ 77 ((mI σ9b_ 65 18).toNatClampNeg) (mI σ9b_ 65 16)) fun σ111 =>
    bnd2 (f_Mo_readsCondition N σ111) fun r113 σ113 =>
    if r113 = 0 then
      (some (0, σ113))
    else
      (grd (inb (mI σ113 65 18) 16) <|
      letv (sI σ113 78 ((mI σ113 65 18).toNatClampNeg) (mI σ113 65 16)) fun σ133 =>
      letv (sI σ133 65 18 ((mI σ133 65 18) + 1)) fun σ141 =>
      some (1, σ141)))
def TOut (N n : Nat) (tx : Nat → Int32) (R : Option (Int32 × Mem)) (σ : Mem) (p c m : Nat) (oc : ClO) : Prop := match oc with
  | .inl (k, q) => ∃ σ', R = some (0, σ') ∧ mI σ' 65 14 = (-1000) * nI k - nI q
  | .inr (r, cl) => ∃ σ' c', R = some (1, σ') ∧ MS n tx σ' [] 0 r c' ∧ c' ≤ r ∧ m < 16 ∧ mI σ' 65 18 = nI (m + 1) ∧ p < r ∧ c ≤ c' ∧ (∀ j, j < c → mI σ' 73 j = mI σ 73 j) ∧ (∀ i, i < m → mI σ' 75 i = mI σ 75 i ∧ mI σ' 76 i = mI σ 76 i ∧ mI σ' 77 i = mI σ 77 i ∧ mI σ' 78 i = mI σ 78 i) ∧ MK σ' m cl c'
theorem mo_clt (hN : 1000 < N) (hT : TX n tx) {q : Nat} {o : Out} (R : RCond tx (SimM N n tx) q o) {σ0 σ : Mem} {W : List (Nat × Nat)} {d p c c0 m s : Nat} {l : Int32} {v : DN} (h : MS n tx σ W d q c) (hc : c ≤ q) (hm : mI σ 65 18 = nI m) (hm16 : m < 16) (hpq : p ≤ q) (hcc : c0 ≤ c) (hk : ∀ j, j < c0 → mI σ 73 j = mI σ0 73 j) (h75 : mI σ 75 = up1 (mI σ0 75) m l) (h76 : mI σ 76 = up1 (mI σ0 76) m (nI s)) (h77 : mI σ 77 = mI σ0 77) (h78 : mI σ 78 = mI σ0 78) (hs : s ≤ c) (hv : l ≠ 117 → SemX DM (mI σ 73) s c (hh 3 0) v) : TOut N n tx (ClT N σ) σ0 p c0 m (lftC l v o) := by
  have hn := hT.1
  have hqn : q ≤ n := h.2.2.2.2.2.2.2
  have F1 : Fr [75, 76, 77, 78] [(65, 18)] σ (sI σ 77 m (nI c)) := (frA _ _ _ _).mono (by decide) (by simp)
  have H1 := h.re F1
  have hC := mo_cond hN hT R H1 hc
  have hgo : ClT N σ = bnd2 (f_Mo_readsCondition N (sI σ 77 m (nI c))) fun r113 σ113 => if r113 = 0 then (some (0, σ113)) else (grd (inb (mI σ113 65 18) 16) <| letv (sI σ113 78 ((mI σ113 65 18).toNatClampNeg) (mI σ113 65 16)) fun σ133 => letv (sI σ133 65 18 ((mI σ133 65 18) + 1)) fun σ141 => some (1, σ141)) := by
    unfold ClT
    rw [hm, grd_t (inb_j hm16 (by decide)), letv_n, nI_clamp (by omega), h.2.2.2.2.1]
  match o, hC with
  | .inl (k, r), hC =>
    obtain ⟨σ', b1, b2⟩ := hC
    refine ⟨σ', ?_, b2⟩
    rw [hgo, b1]
    simp only [bnd2_n, if_true]
  | .inr (r, g), hC =>
    obtain ⟨σ2, c2, b1, b2, b3, b4, b5, b6, b7, b8⟩ := hC
    have F2 := fm_Mo_readsCondition b1
    have hm2 : mI σ2 65 18 = nI m := by rw [F2.I 65 18 (by decide) (by decide), mI_sIn _ _ _ (by decide)]; exact hm
    have F3 : Fr [75, 76, 77, 78] [(65, 18)] σ2 (sI (sI σ2 78 m (nI c2)) 65 18 (nI (m + 1))) := ((Fr.rf [75, 76, 77, 78] [(65, 18)] σ2).aI (σ2 := sI σ2 78 m (nI c2)) rfl (by decide)).fI rfl (by decide)
    have e73 : mI (sI (sI σ2 78 m (nI c2)) 65 18 (nI (m + 1))) 73 = mI σ2 73 := by rw [mI_sIn _ _ _ (by decide), mI_sIn _ _ _ (by decide)]
    have e77 : mI σ2 77 = up1 (mI σ0 77) m (nI c) := by rw [F2.rowI 77 (by decide) (by decide), mI_sI, h77]
    have e78 : mI σ2 78 = mI σ0 78 := by rw [F2.rowI 78 (by decide) (by decide), mI_sIn _ _ _ (by decide), h78]
    have e75 : mI σ2 75 = up1 (mI σ0 75) m l := by rw [F2.rowI 75 (by decide) (by decide), mI_sIn _ _ _ (by decide), h75]
    have e76 : mI σ2 76 = up1 (mI σ0 76) m (nI s) := by rw [F2.rowI 76 (by decide) (by decide), mI_sIn _ _ _ (by decide), h76]
    have g75 : mI (sI (sI σ2 78 m (nI c2)) 65 18 (nI (m + 1))) 75 = up1 (mI σ0 75) m l := by rw [mI_sIn _ _ _ (by decide), mI_sIn _ _ _ (by decide), e75]
    have g76 : mI (sI (sI σ2 78 m (nI c2)) 65 18 (nI (m + 1))) 76 = up1 (mI σ0 76) m (nI s) := by rw [mI_sIn _ _ _ (by decide), mI_sIn _ _ _ (by decide), e76]
    have g77 : mI (sI (sI σ2 78 m (nI c2)) 65 18 (nI (m + 1))) 77 = up1 (mI σ0 77) m (nI c) := by rw [mI_sIn _ _ _ (by decide), mI_sIn _ _ _ (by decide), e77]
    have g78 : mI (sI (sI σ2 78 m (nI c2)) 65 18 (nI (m + 1))) 78 = up1 (mI σ0 78) m (nI c2) := by rw [mI_sIn _ _ _ (by decide), mI_sI, e78]
    have k73 : ∀ j, j < c → mI σ2 73 j = mI σ 73 j := fun j hj => (b6 j hj).trans (by rw [mI_sIn _ _ _ (by decide)])
    refine ⟨_, c2, ?_, b2.re F3, b3, hm16, by rw [sI_s], by omega, by omega, fun j hj => by rw [e73, k73 j (by omega)]; exact hk j hj, fun i hi => ⟨by rw [g75, up1_n _ _ (by omega)], by rw [g76, up1_n _ _ (by omega)], by rw [g77, up1_n _ _ (by omega)], by rw [g78, up1_n _ _ (by omega)]⟩, by rw [g75, up1_s], s, c, c2, by rw [g76, up1_s], by rw [g77, up1_s], by rw [g78, up1_s], hs, b4, Nat.le_refl _, by rw [e73]; exact b7, fun z => by rw [e73]; exact (hv z).k (fun j _ hj => k73 j hj)⟩
    rw [hgo, b1]
    simp only [bnd2_n, if_neg ne10]
    rw [hm2, grd_t (inb_j hm16 (by decide)), letv_n, nI_clamp (by omega), b2.2.2.2.2.1, mI_sIn _ _ _ (by decide), hm2, letv_n, nI_1]
theorem mo_clause (hN : 1000 < N) (hT : TX n tx) {m p : Nat} {oc : ClO} (R : RCl tx (SimM N n tx) m p oc) {σ : Mem} {c : Nat} (h : MS0 n tx σ p c) (hc : c ≤ p) (hm : mI σ 65 18 = nI m) (hm16 : m ≤ 16) : TOut N n tx (f_Mo_readsClause N σ) σ p c m oc := by
  have hn := hT.1
  have hpn : p ≤ n := h.2.2.2.2
  by_cases hcl : isCl (tx p)
  · have e1 : f_Mo_isClause (tx p) = some 1 := by rw [is_cl, if_pos hcl]
    rcases Nat.lt_or_ge m 16 with z | z
    · have hp : p < n := hT.lt (fun e => by rw [e] at hcl; exact absurd hcl (by decide))
      have F0 : Fr [75, 76, 77, 78] [(65, 18)] σ (sI σ 75 m (tx p)) := (frA _ _ _ _).mono (by decide) (by simp)
      obtain ⟨σ2, a1, a2, a3⟩ := (h.re F0).adv hp
      have F1 : Fr [75, 76, 77, 78] [(65, 18)] σ2 (sI σ2 76 m (nI c)) := (frA _ _ _ _).mono (by decide) (by simp)
      have H4 := (a2.re F1).fresh
      have hm2 : mI σ2 65 18 = nI m := by rw [← a1, sI_n _ _ (by omega), mI_sIn _ _ _ (by decide)]; exact hm
      have hm4 : mI (sI (sI (sI σ2 76 m (nI c)) 65 15 0) 65 17 0) 65 18 = nI m := by rw [sI_n _ _ (by omega), sI_n _ _ (by omega), mI_sIn _ _ _ (by decide)]; exact hm2
      have r75 : mI σ2 75 = up1 (mI σ 75) m (tx p) := by rw [← a1, mI_sIn _ _ _ (by decide), mI_sI]
      have rw4 : ∀ k, k ≠ 65 → k ≠ 76 → mI (sI (sI (sI σ2 76 m (nI c)) 65 15 0) 65 17 0) k = mI σ2 k := fun k h1 h2 => by rw [mI_sIn _ _ _ h1, mI_sIn _ _ _ h1, mI_sIn _ _ _ h2]
      have ro : ∀ k, k ≠ 65 → k ≠ 75 → mI σ2 k = mI σ k := fun k h1 h2 => by rw [← a1, mI_sIn _ _ _ h1, mI_sIn _ _ _ h2]
      have g75 : mI (sI (sI (sI σ2 76 m (nI c)) 65 15 0) 65 17 0) 75 = up1 (mI σ 75) m (tx p) := by rw [rw4 75 (by decide) (by decide), r75]
      have g76 : mI (sI (sI (sI σ2 76 m (nI c)) 65 15 0) 65 17 0) 76 = up1 (mI σ 76) m (nI c) := by rw [mI_sIn _ _ _ (by decide), mI_sIn _ _ _ (by decide), mI_sI, ro 76 (by decide) (by decide)]
      have g77 : mI (sI (sI (sI σ2 76 m (nI c)) 65 15 0) 65 17 0) 77 = mI σ 77 := by rw [rw4 77 (by decide) (by decide), ro 77 (by decide) (by decide)]
      have g78 : mI (sI (sI (sI σ2 76 m (nI c)) 65 15 0) 65 17 0) 78 = mI σ 78 := by rw [rw4 78 (by decide) (by decide), ro 78 (by decide) (by decide)]
      have g73 : mI (sI (sI (sI σ2 76 m (nI c)) 65 15 0) 65 17 0) 73 = mI σ 73 := by rw [rw4 73 (by decide) (by decide), ro 73 (by decide) (by decide)]
      have hc2 : mI σ2 65 16 = nI c := a2.2.2.2.1
      have hgo : f_Mo_readsClause N σ = (bnd1 ((if tx p = 117 then (some (0, sI (sI (sI σ2 76 m (nI c)) 65 15 0) 65 17 0)) else (bnd2 (f_Mo_readsSum N (sI (sI (sI σ2 76 m (nI c)) 65 15 0) 65 17 0)) fun r91 σ91 => if r91 = 0 then (some (1, σ91)) else (some (0, σ91)))) : Option (Nat × Mem)) fun s9b => q2 s9b fun t9b σ9b_ => if t9b = 0 then ClT N σ9b_ else if t9b = 1 then (some (0, σ9b_)) else if t9b = 2 then (bnd2 (f_Mo_wrongAt σ9b_ 4 (mI σ9b_ 65 12)) fun r37 σ37 => grd (decide (r37 &&& 1 = r37)) (some (r37, σ37))) else (bnd2 (f_Mo_wrongAt σ9b_ 1 (mI σ9b_ 65 12)) fun r18 σ18 => grd (decide (r18 &&& 1 = r18)) (some (r18, σ18)))) := by
        unfold f_Mo_readsClause
        rw [h.here hT]
        simp only [bnd1_n]
        rw [e1]
        simp only [bnd1_n, if_neg ne10]
        rw [hm, if_neg (show ¬ nI m = 16 from fun e => by have := (nI_eq (b := 16) (by omega) (by decide)).mp e; omega), grd_t (inb_j z (by decide)), letv_n, nI_clamp (by omega), letv_n, a1, hm2, grd_t (inb_j z (by decide)), letv_n, nI_clamp (by omega), hc2, letv_n, letv_n]
        rfl
      rw [hgo]
      rcases R with ⟨q1, -⟩ | ⟨-, q1, -⟩ | ⟨-, -, eu, o, q1, rfl⟩ | ⟨-, -, eu, b, S, rfl⟩ | ⟨-, -, eu, q, v, S, o, q1, rfl⟩
      · exact absurd hcl q1
      · omega
      · rw [if_pos eu]
        simp only [bnd1_n, q2_n, if_true]
        exact mo_clt (p := p) (c0 := c) hN hT q1 H4 (by omega) hm4 z (by omega) (Nat.le_refl _) (fun j _ => by rw [g73]) g75 g76 g77 g78 (Nat.le_refl _) (fun zz => absurd eu zz)
      · rw [if_neg eu]
        obtain ⟨k, q⟩ := b
        obtain ⟨σ5, b1, b2⟩ := mo_sum hN hT (show SimSum N n tx 0 (p + 1) (.inl (k, q)) from S) H4 (x := 0) (by omega) (by simp) (by decide) (show ¬ clo 1 (-1) by decide)
        refine ⟨σ5, ?_, b2⟩
        rw [b1]
        simp only [bnd2_n, if_true, bnd1_n, q2_n, if_neg (show ¬ (1 = 0) by decide)]
      · rw [if_neg eu]
        obtain ⟨σ5, c5, b1, b2, b3, b4, b5, b6, b7, b8⟩ := mo_sum hN hT (show SimSum N n tx 0 (p + 1) (.inr (q, v)) from S) H4 (x := 0) (by omega) (by simp) (by decide) (show ¬ clo 1 (-1) by decide)
        have F5 := fm_Mo_readsSum b1
        rw [b1]
        simp only [bnd2_n, if_neg ne10, bnd1_n, q2_n, if_true]
        exact mo_clt (p := p) (c0 := c) hN hT q1 b2 (by omega) (by rw [F5.I 65 18 (by decide) (by decide)]; exact hm4) z (by omega) b5 (fun j hj => by rw [b7 j hj, g73]) (by rw [F5.rowI 75 (by decide) (by decide), g75]) (by rw [F5.rowI 76 (by decide) (by decide), g76]) (by rw [F5.rowI 77 (by decide) (by decide), g77]) (by rw [F5.rowI 78 (by decide) (by decide), g78]) b5 (fun _ => b8)
    · have e16 : m = 16 := by omega
      rcases R with ⟨q1, -⟩ | ⟨-, -, rfl⟩ | ⟨-, q1, -⟩ | ⟨-, q1, -⟩ | ⟨-, q1, -⟩
      · exact absurd hcl q1
      · obtain ⟨σ', w1, w2⟩ := mo_wr h.1 4 4 rfl
        refine ⟨σ', ?_, w2⟩
        unfold f_Mo_readsClause
        rw [h.here hT]
        simp only [bnd1_n]
        rw [e1]
        simp only [bnd1_n, if_neg ne10]
        rw [if_pos (show mI σ 65 18 = 16 by rw [hm, e16]; rfl)]
        simp only [bnd1_n, q2_n, if_true, if_neg (show ¬ (2 = 0) by decide), if_neg (show ¬ (2 = 1) by decide)]
        exact w1
      · omega
      · omega
      · omega
  · rcases R with ⟨-, rfl⟩ | ⟨q1, -⟩ | ⟨q1, -⟩ | ⟨q1, -⟩ | ⟨q1, -⟩
    · obtain ⟨σ', w1, w2⟩ := mo_wr h.1 1 1 rfl
      refine ⟨σ', ?_, w2⟩
      unfold f_Mo_readsClause
      rw [h.here hT]
      simp only [bnd1_n]
      rw [is_cl, if_neg hcl]
      simp only [bnd1_n, if_true, q2_n, if_neg (show ¬ (3 = 0) by decide), if_neg (show ¬ (3 = 1) by decide), if_neg (show ¬ (3 = 2) by decide)]
      exact w1
    · exact absurd q1 hcl
    · exact absurd q1 hcl
    · exact absurd q1 hcl
    · exact absurd q1 hcl
end SimL
