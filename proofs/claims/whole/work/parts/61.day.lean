-- ===== the day, by what it should be =====
def stands (s : Int32) (c : Nat) : Bool := decide ((s >>> (nI c &&& 31)) &&& 1 = 1)
def inT (x y : Int32) : Bool := !decide (x < 0) && !decide (12 ≤ x) && !decide (y < 0) && !decide (12 ≤ y)
def absI (x : Int32) : Int32 := if 0 ≤ x then x else 0 - x
def maxI (a b : Int32) : Int32 := if a < b then b else a
def minI (a b : Int32) : Int32 := if b < a then b else a
def eastD (d : Int32) : Int32 := if d = 1 then 1 else if d = 3 then (-1) else 0
def northD (d : Int32) : Int32 := if d = 0 then 1 else if d = 2 then (-1) else 0
/-- the squares (as x, y) that a caster of kind k at p of size z and direction d casts on, the sun at e, n -/
def nearL (x y d : Int32) : Nat → List (Int32 × Int32)
  | 0 => []
  | m + 1 => nearL x y d m ++ [(x + nI m * eastD d, y + nI m * northD d)]
def farL (x y e n g : Int32) : Nat → List (Int32 × Int32)
  | 0 => []
  | m + 1 => farL x y e n g m ++ [(x + e * nI (m + 1) / g, y + n * nI (m + 1) / g)]
def hitL (k p z d e n : Int32) : List (Int32 × Int32) :=
  let x := p - p / 12 * 12
  let y := p / 12
  if k = 2 then nearL x y d z.toNatClampNeg
  else (if k = 1 then [(x, y)] else []) ++ (let g := maxI (absI e) (absI n); if g = 0 then [] else farL x y e n g (minI 15 (g * z / 12)).toNatClampNeg)
def hit (l : List (Int32 × Int32)) (sq : Nat) : Bool := l.any (fun q => inT q.1 q.2 && decide (12 * q.2 + q.1 = nI sq))
/-- who of the first m casters reaches a square -/
def rch (s : Int32) (k p z d : Nat → Int32) (e n : Int32) (sq : Nat) : Nat → Int32
  | 0 => 0
  | m + 1 => if stands s m && hit (hitL (k m) (p m) (z m) (d m) e n) sq then rch s k p z d e n sq m ||| ((1 : Int32) <<< (nI m &&& 31)) else rch s k p z d e n sq m
/-- whether one of the first m casters is a house that stands there -/
def blt (s : Int32) (k p : Nat → Int32) (sq : Nat) : Nat → Bool
  | 0 => false
  | m + 1 => blt s k p sq m || (stands s m && decide (k m = 0) && decide (p m = nI sq))
/-- the first of m casters that is a house that stands there, or m -/
def hse (s : Int32) (k p : Nat → Int32) (sq : Int32) (n : Nat) : Nat → Nat
  | 0 => n
  | m + 1 => if stands s (n - (m + 1)) && decide (k (n - (m + 1)) = 0) && decide (p (n - (m + 1)) = sq) then n - (m + 1) else hse s k p sq n m
def SkyOk (σ : Mem) (n : Nat) (lt : Nat → Int32) (Hs Vs : Nat → FA → Int32) : Prop := ∀ h, h < 24 → mI σ 34 h = sup n lt Hs (fHour (nI h) (mI σ 19 8)) ∧ mI σ 35 h = sval n lt Hs Vs 101 (-9) 9 (fHour (nI h) (mI σ 19 8)) ∧ mI σ 36 h = sval n lt Hs Vs 110 (-9) 9 (fHour (nI h) (mI σ 19 8)) ∧ mI σ 37 h = sval n lt Hs Vs 99 0 10 (fHour (nI h) (mI σ 19 8))
def ShadeOk (σ : Mem) : Prop := (∀ sq, sq < 144 → mI σ 39 sq = if blt (mI σ 19 7) (mI σ 20) (mI σ 21) sq (mI σ 19 6).toNatClampNeg then 1 else 0) ∧ ∀ h, h < 24 → ∀ sq, sq < 144 → mI σ 38 (144 * h + sq) = if mI σ 34 h = 0 then 0 else rch (mI σ 19 7) (mI σ 20) (mI σ 21) (mI σ 22) (mI σ 23) (mI σ 35 h) (mI σ 36 h) sq (mI σ 19 6).toNatClampNeg
def IDay (σ : Mem) (n : Nat) (lt : Nat → Int32) (Hs Vs : Nat → FA → Int32) : Prop := (mI σ 33 6 = 0 ∨ (mI σ 33 6 = 1 ∧ SkyOk σ n lt Hs Vs)) ∧ (mI σ 33 9 = 0 ∨ (mI σ 33 9 = 1 ∧ mI σ 33 6 = 1 ∧ ShadeOk σ))
abbrev rSky : List Nat := [34, 35, 36, 37]
abbrev pSky : List (Nat × Nat) := [(19, 8), (33, 6)]
abbrev rSha : List Nat := [20, 21, 22, 23, 34, 35, 36, 38, 39]
abbrev pSha : List (Nat × Nat) := [(19, 6), (19, 7), (33, 6), (33, 9)]
theorem SkyOk.k {σ σ' : Mem} {n : Nat} {lt : Nat → Int32} {Hs Vs : Nat → FA → Int32} (i : SkyOk σ n lt Hs Vs) (h : Keeps rSky pSky σ σ') : SkyOk σ' n lt Hs Vs := by
  unfold SkyOk at i ⊢
  rw [h.f 19 8 (by decide), h.r 34 (by decide), h.r 35 (by decide), h.r 36 (by decide), h.r 37 (by decide)]
  exact i
theorem ShadeOk.k {σ σ' : Mem} (i : ShadeOk σ) (h : Keeps rSha pSha σ σ') : ShadeOk σ' := by
  unfold ShadeOk at i ⊢
  rw [h.f 19 6 (by decide), h.f 19 7 (by decide), h.r 20 (by decide), h.r 21 (by decide), h.r 22 (by decide), h.r 23 (by decide), h.r 34 (by decide), h.r 35 (by decide), h.r 36 (by decide), h.r 38 (by decide), h.r 39 (by decide)]
  exact i
abbrev rDay : List Nat := [20, 21, 22, 23, 34, 35, 36, 37, 38, 39]
abbrev pDay : List (Nat × Nat) := [(19, 6), (19, 7), (19, 8), (33, 6), (33, 9)]
theorem IDay.k {σ σ' : Mem} {n : Nat} {lt : Nat → Int32} {Hs Vs : Nat → FA → Int32} (i : IDay σ n lt Hs Vs) (h : Keeps rDay pDay σ σ') : IDay σ' n lt Hs Vs := by
  obtain ⟨i1, i2⟩ := i
  refine ⟨?_, ?_⟩
  · rw [h.f 33 6 (by decide)]
    rcases i1 with i1 | ⟨i1, i3⟩
    · exact Or.inl i1
    · exact Or.inr ⟨i1, i3.k (h.sub (by decide) (by decide))⟩
  · rw [h.f 33 9 (by decide), h.f 33 6 (by decide)]
    rcases i2 with i2 | ⟨i2, i3, i4⟩
    · exact Or.inl i2
    · exact Or.inr ⟨i2, i3, i4.k (h.sub (by decide) (by decide))⟩
/-- both flags down: whatever else -/
theorem IDay.off {σ : Mem} {n : Nat} {lt : Nat → Int32} {Hs Vs : Nat → FA → Int32} (h1 : mI σ 33 6 = 0) (h2 : mI σ 33 9 = 0) : IDay σ n lt Hs Vs := ⟨Or.inl h1, Or.inl h2⟩
/-- the shade forgotten, the sky as it was -/
theorem IDay.offS {σ σ' : Mem} {n : Nat} {lt : Nat → Int32} {Hs Vs : Nat → FA → Int32} (i : IDay σ n lt Hs Vs) (h : Keeps rSky pSky σ σ') (h2 : mI σ' 33 9 = 0) : IDay σ' n lt Hs Vs := by
  refine ⟨?_, Or.inl h2⟩
  rw [h.f 33 6 (by decide)]
  rcases i.1 with i1 | ⟨i1, i3⟩
  · exact Or.inl i1
  · exact Or.inr ⟨i1, i3.k h⟩
def ILaw (N : Nat) (σ : Mem) : Prop := ∃ (n : Nat) (lt : Nat → Int32) (Hs Vs : Nat → FA → Int32), LawOk n Hs ∧ LawC N σ n lt Hs Vs ∧ LawM N σ n lt Hs Vs ∧ IDay σ n lt Hs Vs
def Inv (N : Nat) (σ : Mem) : Prop := ITown σ ∧ IKept σ ∧ ITape σ ∧ IBuy σ ∧ IWish σ ∧ IWalk σ ∧ ILaw N σ
abbrev rLaw : List Nat := [4, 5, 6, 7, 79, 80, 81, 82, 83, 20, 21, 22, 23, 34, 35, 36, 37, 38, 39]
abbrev pLaw : List (Nat × Nat) := [(3, 5), (65, 20), (19, 6), (19, 7), (19, 8), (33, 6), (33, 9)]
theorem ILaw.k {N : Nat} {σ σ' : Mem} (i : ILaw N σ) (h : Keeps rLaw pLaw σ σ') : ILaw N σ' := by
  obtain ⟨n, lt, Hs, Vs, i0, i1, i2, i3⟩ := i
  exact ⟨n, lt, Hs, Vs, i0, i1.k (h.sub (by decide) (by decide)), i2.k (h.sub (by decide) (by decide)), i3.k (h.sub (by decide) (by decide))⟩
abbrev rLawB : List Nat := [4, 5, 6, 7, 79, 80, 81, 82, 83]
abbrev pLawB : List (Nat × Nat) := [(3, 5), (65, 20)]
theorem ILaw.off {N : Nat} {σ σ' : Mem} (i : ILaw N σ) (h : Keeps rLawB pLawB σ σ') (h1 : mI σ' 33 6 = 0) (h2 : mI σ' 33 9 = 0) : ILaw N σ' := by
  obtain ⟨n, lt, Hs, Vs, i0, i1, i2, i3⟩ := i
  exact ⟨n, lt, Hs, Vs, i0, i1.k (h.sub (by decide) (by decide)), i2.k (h.sub (by decide) (by decide)), IDay.off h1 h2⟩
abbrev rLawS : List Nat := [4, 5, 6, 7, 79, 80, 81, 82, 83, 34, 35, 36, 37]
abbrev pLawS : List (Nat × Nat) := [(3, 5), (65, 20), (19, 8), (33, 6)]
theorem ILaw.offS {N : Nat} {σ σ' : Mem} (i : ILaw N σ) (h : Keeps rLawS pLawS σ σ') (h2 : mI σ' 33 9 = 0) : ILaw N σ' := by
  obtain ⟨n, lt, Hs, Vs, i0, i1, i2, i3⟩ := i
  exact ⟨n, lt, Hs, Vs, i0, i1.k (h.sub (by decide) (by decide)), i2.k (h.sub (by decide) (by decide)), i3.offS (h.sub (by decide) (by decide)) h2⟩
-- ===== single writes as frames =====
theorem frI (σ : Mem) (k j : Nat) (v : Int32) : Fr [] [(k, j)] σ (sI σ k j v) := (Fr.rf [] [(k, j)] σ).fI rfl List.mem_cons_self
theorem frA (σ : Mem) (k j : Nat) (v : Int32) : Fr [k] [] σ (sI σ k j v) := (Fr.rf [k] [] σ).aI rfl List.mem_cons_self
theorem sI_s (σ : Mem) (k j : Nat) (v : Int32) : mI (sI σ k j v) k j = v := by rw [mI_sI, up1_s]
theorem sI_n (σ : Mem) {k j a i : Nat} (v : Int32) (h : ¬ (a = k ∧ i = j)) : mI (sI σ k j v) a i = mI σ a i := up2_n _ _ h
