-- ===== THE PURE PART: the invariant between the class's cells and the reference's =====
/-- a town: how many, who stands, season, X; kinds, places, sizes, directions, owners; purses -/
abbrev TD : Type := Int32 × Int32 × Int32 × Int32 × (Nat → Int32) × (Nat → Int32) × (Nat → Int32) × (Nat → Int32) × (Nat → Int32) × (Nat → Int32)
def tc (σ : Mem) : TD := (mI σ 19 6, mI σ 19 7, mI σ 19 8, mI σ 19 9, mI σ 20, mI σ 21, mI σ 22, mI σ 23, mI σ 24, mI σ 25)
def tm (σ : Mem) : TD := (mI σ 65 0, mI σ 65 1, mI σ 65 2, mI σ 65 3, mI σ 66, mI σ 67, mI σ 68, mI σ 69, mI σ 70, mI σ 71)
def kc26 (σ : Mem) : TD := (mI σ 26 6, mI σ 26 7, mI σ 26 8, mI σ 26 9, mI σ 27, mI σ 28, mI σ 29, mI σ 30, mI σ 31, mI σ 32)
def km (σ : Mem) : TD := (mI σ 65 69, mI σ 65 70, mI σ 65 71, mI σ 65 72, mI σ 110, mI σ 111, mI σ 112, mI σ 113, mI σ 114, mI σ 115)
def TEq (a b : TD) : Prop := match a, b with
  | (n, s, m, x, k, p, z, d, o, u), (n', s', m', x', k', p', z', d', o', u') => n = n' ∧ s = s' ∧ m = m' ∧ x = x' ∧ (∀ c, c < 16 → k c = k' c ∧ p c = p' c ∧ z c = z' c ∧ d c = d' c ∧ o c = o' c) ∧ ∀ w, w < 6 → u w = u' w
def TOk (a : TD) : Prop := match a with
  | (n, s, m, x, k, p, z, d, o, _) => ∃ n' s' : Nat, n' ≤ 16 ∧ s' < 2 ^ n' ∧ n = nI n' ∧ s = nI s' ∧ (∃ m' : Nat, m' < 4 ∧ m = nI m') ∧ (∃ x' : Nat, x' < 65536 ∧ x = nI x') ∧
    ∀ c, c < n' → (∃ k' : Nat, k' < 4 ∧ k c = nI k') ∧ (∃ p' : Nat, p' < 144 ∧ p c = nI p') ∧ (∃ z' : Nat, 1 ≤ z' ∧ z' < 100 ∧ z c = nI z') ∧ (∃ d' : Nat, d' < 4 ∧ d c = nI d') ∧ (∃ o' : Nat, o' < 6 ∧ o c = nI o')
def ITown (σ : Mem) : Prop := TEq (tc σ) (tm σ) ∧ TOk (tc σ)
def IKept (σ : Mem) : Prop := (mI σ 0 6 = 0 ∧ mI σ 65 68 = 0) ∨ (mI σ 0 6 = 1 ∧ mI σ 65 68 = 1 ∧ TEq (kc26 σ) (km σ) ∧ TOk (kc26 σ))
def ITape (σ : Mem) : Prop := ∃ u : Nat, u ≤ 260 ∧ mI σ 1 1 = nI u ∧ mI σ 65 11 = nI u ∧ ∀ j, j < u → ∃ b : Nat, b < 256 ∧ mI σ 2 j = nI b ∧ mI σ 72 j &&& 255 = nI b
def IBuy (σ : Mem) : Prop := (∃ t : Nat, t < 256 ∧ mI σ 47 1 = nI t ∧ mI σ 65 47 = nI t) ∧ ∀ i, i < 8 → ∃ p : Nat, p < 144 ∧ mI σ 48 i = nI p ∧ mI σ 94 i = nI p
def IWish (σ : Mem) : Prop := (∃ t : Nat, t < 65536 ∧ mI σ 56 0 = nI t ∧ mI σ 65 55 = nI t) ∧ ∀ k, k < 16 → ∃ p f t w s : Nat, p < 144 ∧ f ≤ 24 ∧ t ≤ 24 ∧ w < 100 ∧ s < 2 ∧ mI σ 57 k = nI p ∧ mI σ 99 k = nI p ∧ mI σ 58 k = nI f ∧ mI σ 100 k = nI f ∧ mI σ 59 k = nI t ∧ mI σ 101 k = nI t ∧ mI σ 61 k = nI w ∧ mI σ 102 k = nI w ∧ mI σ 60 k = nI s ∧ mI σ 103 k = nI s
def IWalk (σ : Mem) : Prop := (mR σ 44 0 = 46 ∧ mR σ 44 1 = 47) ∨ (mR σ 44 0 = 47 ∧ mR σ 44 1 = 46)
/-- what stays: rows of ints, and single places -/
def Keeps (RP : List Nat) (FP : List (Nat × Nat)) (σ σ' : Mem) : Prop := (∀ x ∈ RP, mI σ' x = mI σ x) ∧ ∀ q ∈ FP, mI σ' q.1 q.2 = mI σ q.1 q.2 ∧ mR σ' q.1 q.2 = mR σ q.1 q.2
def chk (RP : List Nat) (FP : List (Nat × Nat)) (ms : List Nat) (fs : List (Nat × Nat)) : Bool := RP.all (fun x => !ms.contains x && fs.all (fun q => !(q.1 == x))) && FP.all (fun q => !ms.contains q.1 && !fs.contains q)
theorem Fr.keeps {ms : List Nat} {fs : List (Nat × Nat)} {σ σ' : Mem} (h : Fr ms fs σ σ') {RP : List Nat} {FP : List (Nat × Nat)} (hc : chk RP FP ms fs = true) : Keeps RP FP σ σ' := by
  simp only [chk, Bool.and_eq_true, List.all_eq_true, Bool.not_eq_true', List.contains_eq_mem, decide_eq_false_iff_not, beq_eq_false_iff_ne, ne_eq] at hc
  refine ⟨fun x hx => ?_, fun q hq => ?_⟩
  · have h1 := hc.1 x hx
    exact h.rowI x h1.1 (fun q hq => h1.2 q hq)
  · have h1 := hc.2 q hq
    exact ⟨h.I q.1 q.2 h1.1 h1.2, h.R q.1 q.2 h1.1 h1.2⟩
theorem Keeps.t {RP : List Nat} {FP : List (Nat × Nat)} {σ σ1 σ2 : Mem} (h : Keeps RP FP σ σ1) (g : Keeps RP FP σ1 σ2) : Keeps RP FP σ σ2 := ⟨fun x hx => (g.1 x hx).trans (h.1 x hx), fun q hq => ⟨(g.2 q hq).1.trans (h.2 q hq).1, (g.2 q hq).2.trans (h.2 q hq).2⟩⟩
theorem Keeps.r {RP : List Nat} {FP : List (Nat × Nat)} {σ σ1 : Mem} (h : Keeps RP FP σ σ1) (x : Nat) (hx : x ∈ RP) : mI σ1 x = mI σ x := h.1 x hx
theorem Keeps.f {RP : List Nat} {FP : List (Nat × Nat)} {σ σ1 : Mem} (h : Keeps RP FP σ σ1) (k j : Nat) (hx : (k, j) ∈ FP) : mI σ1 k j = mI σ k j := (h.2 (k, j) hx).1
abbrev rTc : List Nat := [20, 21, 22, 23, 24, 25]
abbrev pTc : List (Nat × Nat) := [(19, 6), (19, 7), (19, 8), (19, 9)]
abbrev rTm : List Nat := [66, 67, 68, 69, 70, 71]
abbrev pTm : List (Nat × Nat) := [(65, 0), (65, 1), (65, 2), (65, 3)]
abbrev rKc : List Nat := [27, 28, 29, 30, 31, 32]
abbrev pKc : List (Nat × Nat) := [(26, 6), (26, 7), (26, 8), (26, 9), (0, 6)]
abbrev rKm : List Nat := [110, 111, 112, 113, 114, 115]
abbrev pKm : List (Nat × Nat) := [(65, 69), (65, 70), (65, 71), (65, 72), (65, 68)]
theorem tc_k {σ σ' : Mem} (h : Keeps rTc pTc σ σ') : tc σ' = tc σ := by
  unfold tc
  rw [h.f 19 6 (by decide), h.f 19 7 (by decide), h.f 19 8 (by decide), h.f 19 9 (by decide), h.r 20 (by decide), h.r 21 (by decide), h.r 22 (by decide), h.r 23 (by decide), h.r 24 (by decide), h.r 25 (by decide)]
theorem tm_k {σ σ' : Mem} (h : Keeps rTm pTm σ σ') : tm σ' = tm σ := by
  unfold tm
  rw [h.f 65 0 (by decide), h.f 65 1 (by decide), h.f 65 2 (by decide), h.f 65 3 (by decide), h.r 66 (by decide), h.r 67 (by decide), h.r 68 (by decide), h.r 69 (by decide), h.r 70 (by decide), h.r 71 (by decide)]
theorem kc_k {σ σ' : Mem} (h : Keeps rKc pKc σ σ') : kc26 σ' = kc26 σ := by
  unfold kc26
  rw [h.f 26 6 (by decide), h.f 26 7 (by decide), h.f 26 8 (by decide), h.f 26 9 (by decide), h.r 27 (by decide), h.r 28 (by decide), h.r 29 (by decide), h.r 30 (by decide), h.r 31 (by decide), h.r 32 (by decide)]
theorem km_k {σ σ' : Mem} (h : Keeps rKm pKm σ σ') : km σ' = km σ := by
  unfold km
  rw [h.f 65 69 (by decide), h.f 65 70 (by decide), h.f 65 71 (by decide), h.f 65 72 (by decide), h.r 110 (by decide), h.r 111 (by decide), h.r 112 (by decide), h.r 113 (by decide), h.r 114 (by decide), h.r 115 (by decide)]
abbrev rTown : List Nat := [20, 21, 22, 23, 24, 25, 66, 67, 68, 69, 70, 71]
abbrev pTown : List (Nat × Nat) := [(19, 6), (19, 7), (19, 8), (19, 9), (65, 0), (65, 1), (65, 2), (65, 3)]
theorem Keeps.sub {RP RP' : List Nat} {FP FP' : List (Nat × Nat)} {σ σ' : Mem} (h : Keeps RP FP σ σ') (h1 : ∀ x ∈ RP', x ∈ RP) (h2 : ∀ x ∈ FP', x ∈ FP) : Keeps RP' FP' σ σ' := ⟨fun x hx => h.1 x (h1 x hx), fun q hq => h.2 q (h2 q hq)⟩
theorem ITown.k {σ σ' : Mem} (i : ITown σ) (h : Keeps rTown pTown σ σ') : ITown σ' := by
  unfold ITown at i ⊢
  rw [tc_k (h.sub (by decide) (by decide)), tm_k (h.sub (by decide) (by decide))]
  exact i
abbrev rKept : List Nat := [27, 28, 29, 30, 31, 32, 110, 111, 112, 113, 114, 115]
abbrev pKept : List (Nat × Nat) := [(26, 6), (26, 7), (26, 8), (26, 9), (0, 6), (65, 69), (65, 70), (65, 71), (65, 72), (65, 68)]
theorem IKept.k {σ σ' : Mem} (i : IKept σ) (h : Keeps rKept pKept σ σ') : IKept σ' := by
  unfold IKept at i ⊢
  rw [kc_k (h.sub (by decide) (by decide)), km_k (h.sub (by decide) (by decide)), h.f 0 6 (by decide), h.f 65 68 (by decide)]
  exact i
theorem ITape.k {σ σ' : Mem} (i : ITape σ) (h : Keeps [2, 72] [(1, 1), (65, 11)] σ σ') : ITape σ' := by
  unfold ITape at i ⊢
  rw [h.f 1 1 (by decide), h.f 65 11 (by decide), h.r 2 (by decide), h.r 72 (by decide)]
  exact i
theorem IBuy.k {σ σ' : Mem} (i : IBuy σ) (h : Keeps [48, 94] [(47, 1), (65, 47)] σ σ') : IBuy σ' := by
  unfold IBuy at i ⊢
  rw [h.f 47 1 (by decide), h.f 65 47 (by decide), h.r 48 (by decide), h.r 94 (by decide)]
  exact i
theorem IWish.k {σ σ' : Mem} (i : IWish σ) (h : Keeps [57, 58, 59, 60, 61, 99, 100, 101, 102, 103] [(56, 0), (65, 55)] σ σ') : IWish σ' := by
  unfold IWish at i ⊢
  rw [h.f 56 0 (by decide), h.f 65 55 (by decide), h.r 57 (by decide), h.r 58 (by decide), h.r 59 (by decide), h.r 60 (by decide), h.r 61 (by decide), h.r 99 (by decide), h.r 100 (by decide), h.r 101 (by decide), h.r 102 (by decide), h.r 103 (by decide)]
  exact i
theorem IWalk.k {σ σ' : Mem} (i : IWalk σ) (h : Keeps [] [(44, 0), (44, 1)] σ σ') : IWalk σ' := by
  unfold IWalk at i ⊢
  rw [(h.2 (44, 0) (by decide)).2, (h.2 (44, 1) (by decide)).2]
  exact i
-- ===== the law, by what its clauses come to =====
/-- facts: hour, season, x, y, how many cast, buyer, way, height, owner -/
abbrev FA : Type := Nat → Int32
/-- class: n clauses with the letters lt; clause q's condition comes to Hs q (0 or 1), its value to Vs q -/
def LawC (N : Nat) (σ : Mem) (n : Nat) (lt : Nat → Int32) (Hs Vs : Nat → FA → Int32) : Prop := mI σ 3 5 = nI n ∧ (∀ q, q < n → mI σ 5 q = lt q) ∧
  ∀ σ' : Mem, Keeps [4, 5, 6, 7] [] σ σ' → ∀ q, q < n → ∀ F : FA, (∀ j, j < 9 → mI σ' 8 j = F j) → (∃ σ1, f_La_run N σ' (mI σ 7 q) = some (Hs q F, σ1)) ∧ (lt q ≠ 117 → ∃ σ1, f_La_run N σ' (mI σ 6 q) = some (Vs q F, σ1))
def LawM (N : Nat) (σ : Mem) (n : Nat) (lt : Nat → Int32) (Hs Vs : Nat → FA → Int32) : Prop := mI σ 65 20 = nI n ∧ (∀ q, q < n → mI σ 80 q = lt q) ∧
  ∀ σ' : Mem, Keeps [79] [] σ σ' → ∀ q, q < n → ∀ F : FA, (∀ j, j < 9 → mI σ' 85 j = F j) → (∃ σ1, f_Mo_comesTo N σ' (mI σ 82 q) (mI σ 83 q) = some (Hs q F, σ1)) ∧ (lt q ≠ 117 → ∃ σ1, f_Mo_comesTo N σ' (mI σ 81 q) (mI σ 82 q) = some (Vs q F, σ1))
def LawOk (n : Nat) (Hs : Nat → FA → Int32) : Prop := n ≤ 16 ∧ ∀ q F, Hs q F = 0 ∨ Hs q F = 1
theorem LawC.k {N : Nat} {σ σ' : Mem} {n : Nat} {lt : Nat → Int32} {Hs Vs : Nat → FA → Int32} (i : LawC N σ n lt Hs Vs) (h : Keeps [4, 5, 6, 7] [(3, 5)] σ σ') : LawC N σ' n lt Hs Vs := by
  obtain ⟨i1, i2, i3⟩ := i
  refine ⟨by rw [h.f 3 5 (by decide)]; exact i1, fun q hq => by rw [h.r 5 (by decide)]; exact i2 q hq, fun σ2 h2 q hq F hF => ?_⟩
  rw [h.r 7 (by decide), h.r 6 (by decide)]
  exact i3 σ2 ((h.sub (fun _ z => z) (by decide)).t h2) q hq F hF
theorem LawM.k {N : Nat} {σ σ' : Mem} {n : Nat} {lt : Nat → Int32} {Hs Vs : Nat → FA → Int32} (i : LawM N σ n lt Hs Vs) (h : Keeps [79, 80, 81, 82, 83] [(65, 20)] σ σ') : LawM N σ' n lt Hs Vs := by
  obtain ⟨i1, i2, i3⟩ := i
  refine ⟨by rw [h.f 65 20 (by decide)]; exact i1, fun q hq => by rw [h.r 80 (by decide)]; exact i2 q hq, fun σ2 h2 q hq F hF => ?_⟩
  rw [h.r 81 (by decide), h.r 82 (by decide), h.r 83 (by decide)]
  exact i3 σ2 ((h.sub (by decide) (by decide)).t h2) q hq F hF
/-- the first clause of the letter whose condition holds, or n -/
def pick (n : Nat) (lt : Nat → Int32) (Hs : Nat → FA → Int32) (l : Int32) (F : FA) : Nat → Nat
  | 0 => n
  | m + 1 => if lt (n - (m + 1)) = l ∧ Hs (n - (m + 1)) F ≠ 0 then n - (m + 1) else pick n lt Hs l F m
def firstQ (n : Nat) (lt : Nat → Int32) (Hs : Nat → FA → Int32) (l : Int32) (F : FA) : Nat := pick n lt Hs l F n
def clampI (lo hi v : Int32) : Int32 := if lo ≤ v then (if v ≤ hi then v else hi) else lo
/-- what the law says: the clause's value within its bounds, 0 without one -/
def sval (n : Nat) (lt : Nat → Int32) (Hs Vs : Nat → FA → Int32) (l lo hi : Int32) (F : FA) : Int32 := if firstQ n lt Hs l F < n then clampI lo hi (Vs (firstQ n lt Hs l F) F) else 0
def sup (n : Nat) (lt : Nat → Int32) (Hs : Nat → FA → Int32) (F : FA) : Int32 := if firstQ n lt Hs 117 F < n then 1 else 0
/-- the facts of an hour -/
def fHour (h m : Int32) : FA := up1 (up1 (fun _ => 0) 0 h) 1 m
