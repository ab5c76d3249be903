-- ===== the words of the pure functions, as equations that are not looked through =====
theorem letv_n {α β : Type} (a : α) (f : α → β) : letv a f = f a := congrArg (fun x : β => x) (show letv a f = f a from rfl)
theorem bnd1_n {t0 r : Type} {x0 : t0} {f : t0 → Option r} : bnd1 (some x0) f = f x0 := congrArg (fun x : Option r => x) (show bnd1 (some x0) f = f x0 from rfl)
theorem bnd2_n {t0 t1 r : Type} {x0 : t0} {x1 : t1} {f : t0 → t1 → Option r} : bnd2 (some (x0, x1)) f = f x0 x1 := congrArg (fun x : Option r => x) (show bnd2 (some (x0, x1)) f = f x0 x1 from rfl)
theorem q2_n {t0 t1 r : Type} {x0 : t0} {x1 : t1} {f : t0 → t1 → r} : q2 (x0, x1) f = f x0 x1 := congrArg (fun x : r => x) (show q2 (x0, x1) f = f x0 x1 from rfl)
theorem q3_n {t0 t1 t2 r : Type} {x0 : t0} {x1 : t1} {x2 : t2} {f : t0 → t1 → t2 → r} : q3 (x0, x1, x2) f = f x0 x1 x2 := congrArg (fun x : r => x) (show q3 (x0, x1, x2) f = f x0 x1 x2 from rfl)
theorem q5_n {t0 t1 t2 t3 t4 r : Type} {x0 : t0} {x1 : t1} {x2 : t2} {x3 : t3} {x4 : t4} {f : t0 → t1 → t2 → t3 → t4 → r} : q5 (x0, x1, x2, x3, x4) f = f x0 x1 x2 x3 x4 := congrArg (fun x : r => x) (show q5 (x0, x1, x2, x3, x4) f = f x0 x1 x2 x3 x4 from rfl)
-- ===== the law as a text: what a piece of code comes to, run by either machine =====
/-- what an E or a C comes to by the facts; none: refused -/
abbrev DN : Type := FA → Option Int32
/-- read: a fault with its place, or the place behind and what it comes to -/
abbrev Out : Type := (Nat × Nat) ⊕ (Nat × DN)
/-- an instruction at a place: its kind, its word, the place behind it -/
abbrev LDX : Type := Nat → Nat → Int32 → Nat → Prop
abbrev DE : Type := (Nat → Int32) → LDX
abbrev isDv (c : Int32) : Prop := c = 47 ∨ c = 37
def rk (c x y : Int32) : Int32 := if c = 37 then x - x / y * y else if c = 42 then x * y else if c = 43 then x + y else if c = 45 then x - y else if c = 47 then x / y else if c = 60 then (if y ≤ x then 0 else 1) else if c = 62 then (if x ≤ y then 0 else 1) else (if x = y then 1 else 0)
def binO (c : Int32) (a b : Option Int32) : Option Int32 := match a with
  | none => none
  | some x => match b with
    | none => none
    | some y => if c = 47 ∧ y = 0 then none else if c = 37 ∧ y = 0 then none else some (rk c x y)
def binD (c : Int32) (a b : DN) : DN := fun F => binO c (a F) (b F)
def notO (a : Option Int32) : Option Int32 := match a with
  | none => none
  | some x => some (1 - x)
def notD (a : DN) : DN := fun F => notO (a F)
def jO (w : Int32) (a b : Option Int32) : Option Int32 := match a with
  | none => none
  | some x => if x = w then some w else b
/-- w = 0: both must hold; w = 1: one must -/
def jD (w : Int32) (a b : DN) : DN := fun F => jO w (a F) (b F)
def lcst (v : Int32) : DN := fun _ => some v
def nul : DN := fun _ => none
def B01 (g : DN) : Prop := ∀ F v, g F = some v → v = 0 ∨ v = 1
def wt (i : Nat) : Int32 := if i = 4 then 0 else 1
/-- m steps from a place with a stack: refused, or at a place with a stack -/
def Run (D : LDX) (F : FA) (E : Nat) : Nat → Nat → List Int32 → Option (Nat × List Int32) → Prop
  | 0, pc, st, r => r = some (pc, st)
  | m + 1, pc, st, r => pc < E ∧ st.length < 32 ∧ ∃ (i : Nat) (v : Int32) (nx : Nat), D pc i v nx ∧
    ((i = 0 ∧ Run D F E m nx (v :: st) r) ∨
     (i = 1 ∧ ∃ j, j < 9 ∧ v = nI j ∧ Run D F E m nx (F j :: st) r) ∨
     (i = 2 ∧ ∃ x y s, st = y :: x :: s ∧ ((isDv v ∧ y = 0 ∧ r = none) ∨ (¬ (isDv v ∧ y = 0) ∧ Run D F E m nx (rk v x y :: s) r))) ∨
     (i = 3 ∧ ∃ x s, st = x :: s ∧ Run D F E m nx ((1 - x) :: s) r) ∨
     ((i = 4 ∨ i = 5) ∧ ∃ x s t, st = x :: s ∧ v = nI t ∧ (x = 0 ∨ x = 1) ∧ ((x = wt i ∧ Run D F E m t st r) ∨ (x ≠ wt i ∧ Run D F E m nx s r))))
theorem Run.t {D : LDX} {F : FA} {E : Nat} {m' : Nat} {pc' : Nat} {st' : List Int32} {r : Option (Nat × List Int32)} (h2 : Run D F E m' pc' st' r) : ∀ (m pc : Nat) (st : List Int32), Run D F E m pc st (some (pc', st')) → Run D F E (m + m') pc st r := by
  intro m
  induction m with
  | zero =>
    intro pc st h
    have h : some (pc', st') = some (pc, st) := h
    injection h with h
    injection h with h3 h4
    subst h3 h4
    rw [Nat.zero_add]
    exact h2
  | succ m ih =>
    intro pc st h
    rw [Nat.succ_add]
    obtain ⟨h1, h3, i, v, nx, hD, h⟩ := h
    refine ⟨h1, h3, i, v, nx, hD, ?_⟩
    rcases h with ⟨e, h⟩ | ⟨e, j, hj, hv, h⟩ | ⟨e, x, y, s, es, h⟩ | ⟨e, x, s, es, h⟩ | ⟨e, x, s, t, es, et, hx, h⟩
    · exact Or.inl ⟨e, ih _ _ h⟩
    · exact Or.inr (Or.inl ⟨e, j, hj, hv, ih _ _ h⟩)
    · refine Or.inr (Or.inr (Or.inl ⟨e, x, y, s, es, ?_⟩))
      rcases h with ⟨q1, q2, q3⟩ | ⟨q1, q2⟩
      · cases q3
      · exact Or.inr ⟨q1, ih _ _ q2⟩
    · exact Or.inr (Or.inr (Or.inr (Or.inl ⟨e, x, s, es, ih _ _ h⟩)))
    · refine Or.inr (Or.inr (Or.inr (Or.inr ⟨e, x, s, t, es, et, hx, ?_⟩)))
      rcases h with ⟨q1, q2⟩ | ⟨q1, q2⟩
      · exact Or.inl ⟨q1, ih _ _ q2⟩
      · exact Or.inr ⟨q1, ih _ _ q2⟩
theorem Run.up {D : LDX} {F : FA} {E E' : Nat} (hE : E ≤ E') {r : Option (Nat × List Int32)} : ∀ (m pc : Nat) (st : List Int32), Run D F E m pc st r → Run D F E' m pc st r := by
  intro m
  induction m with
  | zero => intro pc st h; exact h
  | succ m ih =>
    intro pc st h
    obtain ⟨h1, h3, i, v, nx, hD, h⟩ := h
    refine ⟨Nat.lt_of_lt_of_le h1 hE, h3, i, v, nx, hD, ?_⟩
    rcases h with ⟨e, h⟩ | ⟨e, j, hj, hv, h⟩ | ⟨e, x, y, s, es, h⟩ | ⟨e, x, s, es, h⟩ | ⟨e, x, s, t, es, et, hx, h⟩
    · exact Or.inl ⟨e, ih _ _ h⟩
    · exact Or.inr (Or.inl ⟨e, j, hj, hv, ih _ _ h⟩)
    · refine Or.inr (Or.inr (Or.inl ⟨e, x, y, s, es, ?_⟩))
      rcases h with q | ⟨q1, q2⟩
      · exact Or.inl q
      · exact Or.inr ⟨q1, ih _ _ q2⟩
    · exact Or.inr (Or.inr (Or.inr (Or.inl ⟨e, x, s, es, ih _ _ h⟩)))
    · refine Or.inr (Or.inr (Or.inr (Or.inr ⟨e, x, s, t, es, et, hx, ?_⟩)))
      rcases h with ⟨q1, q2⟩ | ⟨q1, q2⟩
      · exact Or.inl ⟨q1, ih _ _ q2⟩
      · exact Or.inr ⟨q1, ih _ _ q2⟩
/-- a refused run: the steps behind it do not matter -/
theorem Run.n {D : LDX} {F : FA} {E : Nat} : ∀ (m pc : Nat) (st : List Int32), Run D F E m pc st none → 0 < m := by
  intro m pc st h
  cases m with
  | zero => cases h
  | succ m => exact Nat.succ_pos m
def rs (e : Nat) (st : List Int32) (o : Option Int32) : Option (Nat × List Int32) := match o with
  | none => none
  | some v => some (e, v :: st)
/-- the code from s to e comes to g, on a stack that has room for h more -/
def Sem (D : LDX) (s e h : Nat) (g : DN) : Prop := ∀ (F : FA) (st : List Int32), st.length + h ≤ 32 → ∃ m, m ≤ e - s ∧ Run D F e m s st (rs e st (g F))
def SemX (Dec : DE) (cd : Nat → Int32) (s e h : Nat) (g : DN) : Prop := ∀ cd' : Nat → Int32, (∀ j, s ≤ j → j < e → cd' j = cd j) → Sem (Dec cd') s e h g
section SemS
variable {Dec : DE} {cd : Nat → Int32}
theorem SemX.k {s e h : Nat} {g : DN} (H : SemX Dec cd s e h g) {cd2 : Nat → Int32} (hk : ∀ j, s ≤ j → j < e → cd2 j = cd j) : SemX Dec cd2 s e h g := fun cd' h' => H cd' (fun j h1 h2 => (h' j h1 h2).trans (hk j h1 h2))
theorem SemX.up {s e h h' : Nat} {g : DN} (H : SemX Dec cd s e h g) (hh : h ≤ h') : SemX Dec cd s e h' g := fun cd' hc F st hs => H cd' hc F st (by omega)
theorem sem_num {s e : Nat} {v : Int32} (hse : s < e) (hD : ∀ cd' : Nat → Int32, (∀ j, s ≤ j → j < e → cd' j = cd j) → Dec cd' s 0 v e) : SemX Dec cd s e 2 (lcst v) := fun cd' hc F st hs => ⟨1, by omega, hse, by omega, 0, v, e, hD cd' hc, Or.inl ⟨rfl, rfl⟩⟩
theorem sem_fact {s e j : Nat} (hse : s < e) (hj : j < 9) (hD : ∀ cd' : Nat → Int32, (∀ j, s ≤ j → j < e → cd' j = cd j) → Dec cd' s 1 (nI j) e) : SemX Dec cd s e 2 (fun F => some (F j)) := fun cd' hc F st hs => ⟨1, by omega, hse, by omega, 1, nI j, e, hD cd' hc, Or.inr (Or.inl ⟨rfl, j, hj, rfl, rfl⟩)⟩
theorem sem_bin {s m k e h h' H : Nat} {a b : DN} {c : Int32} (Ha : SemX Dec cd s m h a) (Hb : SemX Dec cd m k h' b) (h1 : h ≤ H) (h2 : h' + 1 ≤ H) (h3 : 2 ≤ h') (sm : s ≤ m) (mk : m ≤ k) (ke : k < e) (hD : ∀ cd' : Nat → Int32, (∀ j, k ≤ j → j < e → cd' j = cd j) → Dec cd' k 2 c e) : SemX Dec cd s e H (binD c a b) := by
  intro cd' hc F st hs
  obtain ⟨m1, b1, r1⟩ := Ha cd' (fun j q1 q2 => hc j q1 (by omega)) F st (by omega)
  have r1 := Run.up (show m ≤ e by omega) _ _ _ r1
  unfold binD
  cases ha : a F with
  | none =>
    rw [ha] at r1
    exact ⟨m1, by omega, r1⟩
  | some x =>
    rw [ha] at r1
    obtain ⟨m2, b2, r2⟩ := Hb cd' (fun j q1 q2 => hc j (by omega) (by omega)) F (x :: st) (by rw [List.length_cons]; omega)
    have r2 := Run.up (show k ≤ e by omega) _ _ _ r2
    cases hb : b F with
    | none =>
      rw [hb] at r2
      exact ⟨m1 + m2, by omega, Run.t r2 m1 s st r1⟩
    | some y =>
      rw [hb] at r2
      have hk := hD cd' (fun j q1 q2 => hc j (by omega) q2)
      have hl : (y :: x :: st).length < 32 := by rw [List.length_cons, List.length_cons]; omega
      refine ⟨m1 + (m2 + 1), by omega, Run.t (Run.t (m' := 1) (pc' := k) (st' := y :: x :: st) ⟨ke, hl, 2, c, e, hk, Or.inr (Or.inr (Or.inl ⟨rfl, x, y, st, rfl, ?_⟩))⟩ m2 m (x :: st) r2) m1 s st r1⟩
      unfold binO
      by_cases z1 : c = 47 ∧ y = 0
      · exact Or.inl ⟨Or.inl z1.1, z1.2, by simp only [if_pos z1]; rfl⟩
      · by_cases z2 : c = 37 ∧ y = 0
        · exact Or.inl ⟨Or.inr z2.1, z2.2, by simp only [if_neg z1, if_pos z2]; rfl⟩
        · refine Or.inr ⟨fun z => ?_, by simp only [if_neg z1, if_neg z2]; rfl⟩
          rcases z.1 with q | q
          · exact z1 ⟨q, z.2⟩
          · exact z2 ⟨q, z.2⟩
theorem sem_not {s k e h : Nat} {a : DN} {v : Int32} (Ha : SemX Dec cd s k h a) (h2 : 2 ≤ h) (sk : s ≤ k) (ke : k < e) (hD : ∀ cd' : Nat → Int32, (∀ j, k ≤ j → j < e → cd' j = cd j) → Dec cd' k 3 v e) : SemX Dec cd s e h (notD a) := by
  intro cd' hc F st hs
  obtain ⟨m1, b1, r1⟩ := Ha cd' (fun j q1 q2 => hc j q1 (by omega)) F st (by omega)
  have r1 := Run.up (show k ≤ e by omega) _ _ _ r1
  unfold notD
  cases ha : a F with
  | none =>
    rw [ha] at r1
    exact ⟨m1, by omega, r1⟩
  | some x =>
    rw [ha] at r1
    have hk := hD cd' (fun j q1 q2 => hc j (by omega) q2)
    exact ⟨m1 + 1, by omega, Run.t (m' := 1) (pc' := k) (st' := x :: st) ⟨ke, by rw [List.length_cons]; omega, 3, v, e, hk, Or.inr (Or.inr (Or.inr (Or.inl ⟨rfl, x, st, rfl, rfl⟩)))⟩ m1 s st r1⟩
/-- closed: a, a jump to e, b, e -/
theorem sem_jump {s f n e h i : Nat} {a b : DN} (Ha : SemX Dec cd s f h a) (Hb : SemX Dec cd n e h b) (h2 : 2 ≤ h) (sf : s ≤ f) (fn : f < n) (ne : n ≤ e) (hi : i = 4 ∨ i = 5) (h01 : B01 a) (hD : ∀ cd' : Nat → Int32, (∀ j, f ≤ j → j < n → cd' j = cd j) → Dec cd' f i (nI e) n) : SemX Dec cd s e h (jD (wt i) a b) := by
  intro cd' hc F st hs
  obtain ⟨m1, b1, r1⟩ := Ha cd' (fun j q1 q2 => hc j q1 (by omega)) F st (by omega)
  have r1 := Run.up (show f ≤ e by omega) _ _ _ r1
  unfold jD
  cases ha : a F with
  | none =>
    rw [ha] at r1
    exact ⟨m1, by omega, r1⟩
  | some x =>
    rw [ha] at r1
    have hk := hD cd' (fun j q1 q2 => hc j (by omega) (by omega))
    have hl : (x :: st).length < 32 := by rw [List.length_cons]; omega
    unfold jO
    by_cases z : x = wt i
    · simp only [if_pos z]
      rw [← z]
      exact ⟨m1 + 1, by omega, Run.t (m' := 1) (pc' := f) (st' := x :: st) ⟨by omega, hl, i, nI e, n, hk, Or.inr (Or.inr (Or.inr (Or.inr ⟨hi, x, st, e, rfl, rfl, h01 F x ha, Or.inl ⟨z, rfl⟩⟩)))⟩ m1 s st r1⟩
    · simp only [if_neg z]
      obtain ⟨m2, b2, r2⟩ := Hb cd' (fun j q1 q2 => hc j (by omega) (by omega)) F st (by omega)
      exact ⟨m1 + (m2 + 1), by omega, Run.t (m' := m2 + 1) (pc' := f) (st' := x :: st) ⟨by omega, hl, i, nI e, n, hk, Or.inr (Or.inr (Or.inr (Or.inr ⟨hi, x, st, e, rfl, rfl, h01 F x ha, Or.inr ⟨z, r2⟩⟩)))⟩ m1 s st r1⟩
end SemS
theorem B01.bin {c : Int32} {a b : DN} (hc : c = 60 ∨ c = 62 ∨ c = 61) : B01 (binD c a b) := by
  intro F v h
  unfold binD binO at h
  cases ha : a F with
  | none => rw [ha] at h; cases h
  | some x =>
    rw [ha] at h
    cases hb : b F with
    | none => rw [hb] at h; cases h
    | some y =>
      rw [hb] at h
      have n1 : ¬ (c = 47 ∧ y = 0) := fun z => by rcases hc with q | q | q <;> rw [q] at z <;> exact absurd z.1 (by decide)
      have n2 : ¬ (c = 37 ∧ y = 0) := fun z => by rcases hc with q | q | q <;> rw [q] at z <;> exact absurd z.1 (by decide)
      simp only [if_neg n1, if_neg n2] at h
      cases h
      unfold rk
      rcases hc with q | q | q <;> subst q
      · rw [if_neg (by decide), if_neg (by decide), if_neg (by decide), if_neg (by decide), if_neg (by decide), if_pos rfl]
        by_cases z : y ≤ x
        · rw [if_pos z]; exact Or.inl rfl
        · rw [if_neg z]; exact Or.inr rfl
      · rw [if_neg (by decide), if_neg (by decide), if_neg (by decide), if_neg (by decide), if_neg (by decide), if_neg (by decide), if_pos rfl]
        by_cases z : x ≤ y
        · rw [if_pos z]; exact Or.inl rfl
        · rw [if_neg z]; exact Or.inr rfl
      · rw [if_neg (by decide), if_neg (by decide), if_neg (by decide), if_neg (by decide), if_neg (by decide), if_neg (by decide), if_neg (by decide)]
        by_cases z : x = y
        · rw [if_pos z]; exact Or.inr rfl
        · rw [if_neg z]; exact Or.inl rfl
theorem B01.not {a : DN} (h : B01 a) : B01 (notD a) := by
  intro F v hv
  unfold notD notO at hv
  cases ha : a F with
  | none => rw [ha] at hv; cases hv
  | some x =>
    rw [ha] at hv
    cases hv
    rcases h F x ha with q | q <;> subst q
    · exact Or.inr (by decide)
    · exact Or.inl (by decide)
theorem B01.j {w : Int32} {a b : DN} (hw : w = 0 ∨ w = 1) (hb : B01 b) : B01 (jD w a b) := by
  intro F v hv
  unfold jD jO at hv
  cases ha : a F with
  | none => rw [ha] at hv; cases hv
  | some x =>
    rw [ha] at hv
    by_cases z : x = w
    · simp only [if_pos z] at hv
      cases hv
      exact hw
    · simp only [if_neg z] at hv
      exact hb F v hv
theorem B01.lcst {v : Int32} (h : v = 0 ∨ v = 1) : B01 (lcst v) := fun F x hx => by
  cases hx
  exact h
theorem jD_one (b : DN) : jD 0 (lcst 1) b = b := rfl
theorem jD_zro (b : DN) : jD 1 (lcst 0) b = b := rfl
-- ===== the grammar: what any picture of the reading that is closed under its rules must hold =====
abbrev isMd (c : Int32) : Prop := c = 42 ∨ c = 47 ∨ c = 37
abbrev isPm (c : Int32) : Prop := c = 43 ∨ c = 45
abbrev isCm (c : Int32) : Prop := c = 60 ∨ c = 62 ∨ c = 61
def lix (c : Int32) : Nat := if c = 116 then 0 else if c = 109 then 1 else if c = 120 then 2 else if c = 121 then 3 else if c = 115 then 4 else if c = 105 then 5 else if c = 100 then 6 else if c = 104 then 7 else if c = 111 then 8 else 9
abbrev dig (c : Int32) : Prop := ¬ c < 48 ∧ ¬ 57 < c
def dval (tx : Nat → Int32) (p : Nat) : Nat → Int32
  | 0 => 0
  | m + 1 => 10 * dval tx p m + tx (p + m) - 48
abbrev MT : Type := Nat → DN → Nat → Nat → Out → Prop
def CloF (tx : Nat → Int32) (M : MT) : Prop :=
  (∀ d p, tx p = 91 → 6 ≤ d → M 5 nul d p (.inl (5, p))) ∧
  (∀ d p b, tx p = 91 → d < 6 → M 3 nul (d + 1) (p + 1) (.inl b) → M 5 nul d p (.inl b)) ∧
  (∀ d p q g, tx p = 91 → d < 6 → M 3 nul (d + 1) (p + 1) (.inr (q, g)) → tx q ≠ 93 → M 5 nul d p (.inl (1, q))) ∧
  (∀ d p q g, tx p = 91 → d < 6 → M 3 nul (d + 1) (p + 1) (.inr (q, g)) → tx q = 93 → M 5 nul d p (.inr (q + 1, g))) ∧
  (∀ d p m, 1 ≤ m → m ≤ 5 → (∀ i, i < m → dig (tx (p + i))) → ¬ dig (tx (p + m)) → M 5 nul d p (.inr (p + m, lcst (dval tx p m)))) ∧
  (∀ d p, (∀ i, i < 6 → dig (tx (p + i))) → M 5 nul d p (.inl (2, p + 5))) ∧
  (∀ d p, lix (tx p) < 9 → M 5 nul d p (.inr (p + 1, fun F => some (F (lix (tx p)))))) ∧
  (∀ d p, tx p ≠ 91 → ¬ dig (tx p) → lix (tx p) = 9 → M 5 nul d p (.inl (1, p)))
def CloT (tx : Nat → Int32) (M : MT) : Prop :=
  (∀ d p b, M 5 nul d p (.inl b) → M 4 nul d p (.inl b)) ∧
  (∀ d p q g o, M 5 nul d p (.inr (q, g)) → M 7 g d q o → M 4 nul d p o) ∧
  (∀ g d p, ¬ isMd (tx p) → M 7 g d p (.inr (p, g))) ∧
  (∀ g d p b, isMd (tx p) → M 5 nul d (p + 1) (.inl b) → M 7 g d p (.inl b)) ∧
  (∀ g d p q g2 o, isMd (tx p) → M 5 nul d (p + 1) (.inr (q, g2)) → M 7 (binD (tx p) g g2) d q o → M 7 g d p o)
def CloS (tx : Nat → Int32) (M : MT) : Prop :=
  (∀ d p b, M 4 nul d p (.inl b) → M 3 nul d p (.inl b)) ∧
  (∀ d p q g o, M 4 nul d p (.inr (q, g)) → M 6 g d q o → M 3 nul d p o) ∧
  (∀ g d p, ¬ isPm (tx p) → M 6 g d p (.inr (p, g))) ∧
  (∀ g d p b, isPm (tx p) → M 4 nul d (p + 1) (.inl b) → M 6 g d p (.inl b)) ∧
  (∀ g d p q g2 o, isPm (tx p) → M 4 nul d (p + 1) (.inr (q, g2)) → M 6 (binD (tx p) g g2) d q o → M 6 g d p o)
def CloP (tx : Nat → Int32) (M : MT) : Prop :=
  (∀ d p, tx p = 33 → 6 ≤ d → M 2 nul d p (.inl (5, p))) ∧
  (∀ d p b, tx p = 33 → d < 6 → M 2 nul (d + 1) (p + 1) (.inl b) → M 2 nul d p (.inl b)) ∧
  (∀ d p q g, tx p = 33 → d < 6 → M 2 nul (d + 1) (p + 1) (.inr (q, g)) → M 2 nul d p (.inr (q, notD g))) ∧
  (∀ d p, tx p = 40 → 6 ≤ d → M 2 nul d p (.inl (5, p))) ∧
  (∀ d p b, tx p = 40 → d < 6 → M 0 (lcst 0) (d + 1) (p + 1) (.inl b) → M 2 nul d p (.inl b)) ∧
  (∀ d p q g, tx p = 40 → d < 6 → M 0 (lcst 0) (d + 1) (p + 1) (.inr (q, g)) → tx q ≠ 41 → M 2 nul d p (.inl (1, q))) ∧
  (∀ d p q g, tx p = 40 → d < 6 → M 0 (lcst 0) (d + 1) (p + 1) (.inr (q, g)) → tx q = 41 → M 2 nul d p (.inr (q + 1, g))) ∧
  (∀ d p b, tx p ≠ 33 → tx p ≠ 40 → M 3 nul d p (.inl b) → M 2 nul d p (.inl b)) ∧
  (∀ d p q g, tx p ≠ 33 → tx p ≠ 40 → M 3 nul d p (.inr (q, g)) → ¬ isCm (tx q) → M 2 nul d p (.inl (1, q))) ∧
  (∀ d p q g b, tx p ≠ 33 → tx p ≠ 40 → M 3 nul d p (.inr (q, g)) → isCm (tx q) → M 3 nul d (q + 1) (.inl b) → M 2 nul d p (.inl b)) ∧
  (∀ d p q g q2 g2, tx p ≠ 33 → tx p ≠ 40 → M 3 nul d p (.inr (q, g)) → isCm (tx q) → M 3 nul d (q + 1) (.inr (q2, g2)) → M 2 nul d p (.inr (q2, binD (tx q) g g2)))
def CloC (tx : Nat → Int32) (M : MT) : Prop :=
  (∀ a d p b, M 2 nul d p (.inl b) → M 1 a d p (.inl b)) ∧
  (∀ a d p q g, M 2 nul d p (.inr (q, g)) → tx q ≠ 38 → M 1 a d p (.inr (q, jD 0 a g))) ∧
  (∀ a d p q g o, M 2 nul d p (.inr (q, g)) → tx q = 38 → M 1 (jD 0 a g) d (q + 1) o → M 1 a d p o) ∧
  (∀ a d p b, M 1 (lcst 1) d p (.inl b) → M 0 a d p (.inl b)) ∧
  (∀ a d p q g, M 1 (lcst 1) d p (.inr (q, g)) → tx q ≠ 124 → M 0 a d p (.inr (q, jD 1 a g))) ∧
  (∀ a d p q g o, M 1 (lcst 1) d p (.inr (q, g)) → tx q = 124 → M 0 (jD 1 a g) d (q + 1) o → M 0 a d p o)
def Clo (tx : Nat → Int32) (M : MT) : Prop := CloF tx M ∧ CloT tx M ∧ CloS tx M ∧ CloP tx M ∧ CloC tx M
/-- how much room a piece of kind t at depth d needs on the stack -/
def hh (t d : Nat) : Nat := 2 + 2 * (6 - d) + (if t ≤ 2 then 3 else 5 - t)
