-- part ff: the sale, as pure numbers: who gets which square
def omx : Option Nat → Option Nat → Option Nat
  | none, y => y
  | some a, none => some a
  | some a, some b => some (max a b)
def oad : Option Nat → Option Nat → Option Nat
  | some a, some b => some (a + b)
  | _, _ => none
def rmv (S b : Nat) : Nat := S ^^^ 2 ^ b
theorem rmv_bit (S b j : Nat) : (rmv S b).testBit j = (S.testBit j != decide (b = j)) := by
  unfold rmv; rw [Nat.testBit_xor, Nat.testBit_two_pow]
theorem rmv_sub {S b j : Nat} (h : S.testBit b = true) : (rmv S b).testBit j = true ↔ (S.testBit j = true ∧ j ≠ b) := by
  rw [rmv_bit]
  by_cases c : b = j
  · subst c; simp [h]
  · rw [decide_eq_false c]; cases S.testBit j <;> simp <;> omega
theorem rmv_lt {S b : Nat} (h : S.testBit b = true) : rmv S b < S := by
  have e : S &&& rmv S b = rmv S b := Nat.eq_of_testBit_eq fun j => by
    rw [Nat.testBit_and]
    cases c : (rmv S b).testBit j with
    | false => simp
    | true => rw [((rmv_sub h).mp c).1]; rfl
  have l : S &&& rmv S b ≤ S := Nat.and_le_left
  have n : rmv S b ≠ S := fun z => by
    have := rmv_bit S b b
    rw [z, h, decide_eq_true rfl] at this
    cases this
  omega
def DB (o : Nat → Nat → Option Nat) (T : Nat → Option Nat) (p S : Nat) : Nat → Option Nat
  | 0 => T S
  | b + 1 => omx (DB o T p S b) (if S.testBit b = true then oad (T (rmv S b)) (o b p) else none)
def DD (o : Nat → Nat → Option Nat) : Nat → Nat → Option Nat
  | 0, S => if S = 0 then some 0 else none
  | p + 1, S => DB o (DD o p) p S 8
def Row (o : Nat → Nat → Option Nat) (p S : Nat) (r : Nat → Nat) : Prop := (∀ b, b < 8 → S.testBit b = true → r b < p ∧ ∃ y, o b (r b) = some y) ∧ ∀ a b, a < 8 → b < 8 → S.testBit a = true → S.testBit b = true → r a = r b → a = b
def tot (o : Nat → Nat → Option Nat) (S : Nat) (r : Nat → Nat) : Nat := sumN (fun b => if S.testBit b = true then (o b (r b)).getD 0 else 0) 8
theorem sumN_upd {f g : Nat → Nat} {b y : Nat} : ∀ m, b < m → (∀ i, i < m → i ≠ b → f i = g i) → f b = g b + y → sumN f m = sumN g m + y := by
  intro m
  induction m with
  | zero => intro h; omega
  | succ m ih =>
    intro h h1 h2
    rw [sumN_succ, sumN_succ]
    by_cases c : b = m
    · subst c
      rw [sumN_congr b (fun i hi => h1 i (by omega) (by omega)), h2]; omega
    · rw [ih (by omega) (fun i hi => h1 i (by omega)) h2, h1 m (by omega) (by omega)]; omega
theorem tot_rmv {o : Nat → Nat → Option Nat} {S b : Nat} {r r' : Nat → Nat} (hb : b < 8) (h : S.testBit b = true) (hr : ∀ i, i ≠ b → r i = r' i) : tot o S r = tot o (rmv S b) r' + (o b (r b)).getD 0 := by
  unfold tot
  refine sumN_upd 8 hb (fun i _ hi => ?_) ?_
  · show (if S.testBit i = true then _ else _) = (if (rmv S b).testBit i = true then _ else _)
    rw [hr i hi]
    by_cases c : S.testBit i = true
    · rw [if_pos c, if_pos ((rmv_sub h).mpr ⟨c, hi⟩)]
    · rw [if_neg c, if_neg (fun z => c ((rmv_sub h).mp z).1)]
  · show (if S.testBit b = true then _ else _) = (if (rmv S b).testBit b = true then _ else _) + _
    rw [if_pos h, if_neg (fun z => ((rmv_sub h).mp z).2 rfl)]; omega
theorem omx_some {x y : Option Nat} {v : Nat} (h : omx x y = some v) : x = some v ∨ y = some v := by
  cases x with
  | none => exact Or.inr h
  | some a =>
    cases y with
    | none => exact Or.inl h
    | some b =>
      have h' : max a b = v := Option.some.inj h
      by_cases c : a ≤ b
      · right; rw [← h', Nat.max_eq_right c]
      · left; rw [← h', Nat.max_eq_left (by omega)]
theorem omx_l {y : Option Nat} {a : Nat} : ∃ v, omx (some a) y = some v ∧ a ≤ v := by
  cases y with
  | none => exact ⟨a, rfl, Nat.le_refl _⟩
  | some b => exact ⟨max a b, rfl, Nat.le_max_left a b⟩
theorem omx_r {x : Option Nat} {b : Nat} : ∃ v, omx x (some b) = some v ∧ b ≤ v := by
  cases x with
  | none => exact ⟨b, rfl, Nat.le_refl _⟩
  | some a => exact ⟨max a b, rfl, Nat.le_max_right a b⟩
theorem DB_some {o : Nat → Nat → Option Nat} {T : Nat → Option Nat} {p S v : Nat} : ∀ n, DB o T p S n = some v → T S = some v ∨ ∃ b x y, b < n ∧ S.testBit b = true ∧ T (rmv S b) = some x ∧ o b p = some y ∧ v = x + y := by
  intro n
  induction n with
  | zero => exact fun h => Or.inl h
  | succ n ih =>
    intro h
    rcases omx_some h with q | q
    · rcases ih q with q | ⟨b, x, y, q1, q2⟩
      · exact Or.inl q
      · exact Or.inr ⟨b, x, y, by omega, q2⟩
    · by_cases c : S.testBit n = true
      · rw [if_pos c] at q
        cases e1 : T (rmv S n) with
        | none => rw [e1] at q; cases q
        | some x =>
          cases e2 : o n p with
          | none => rw [e1, e2] at q; cases q
          | some y => rw [e1, e2] at q; exact Or.inr ⟨n, x, y, by omega, c, e1, e2, (Option.some.inj q).symm⟩
      · rw [if_neg c] at q; cases q
theorem DB_mono {o : Nat → Nat → Option Nat} {T : Nat → Option Nat} {p S n x : Nat} (h : DB o T p S n = some x) : ∀ k, ∃ v, DB o T p S (n + k) = some v ∧ x ≤ v := by
  intro k
  induction k with
  | zero => exact ⟨x, h, Nat.le_refl _⟩
  | succ k ih =>
    obtain ⟨v, q1, q2⟩ := ih
    show ∃ w, omx (DB o T p S (n + k)) _ = some w ∧ x ≤ w
    rw [q1]
    obtain ⟨w, q3, q4⟩ := omx_l (a := v) (y := if S.testBit (n + k) = true then oad (T (rmv S (n + k))) (o (n + k) p) else none)
    exact ⟨w, q3, by omega⟩
theorem DB_keep {o : Nat → Nat → Option Nat} {T : Nat → Option Nat} {p S x : Nat} (h : T S = some x) : ∃ v, DB o T p S 8 = some v ∧ x ≤ v := DB_mono (n := 0) h 8
theorem DB_take {o : Nat → Nat → Option Nat} {T : Nat → Option Nat} {p S b x y : Nat} (hb : b < 8) (hS : S.testBit b = true) (h1 : T (rmv S b) = some x) (h2 : o b p = some y) : ∃ v, DB o T p S 8 = some v ∧ x + y ≤ v := by
  have h : ∃ v, DB o T p S (b + 1) = some v ∧ x + y ≤ v := by
    show ∃ v, omx (DB o T p S b) _ = some v ∧ x + y ≤ v
    rw [if_pos hS, h1, h2]
    exact omx_r
  obtain ⟨v, q1, q2⟩ := h
  obtain ⟨w, q3, q4⟩ := DB_mono q1 (8 - (b + 1))
  rw [show b + 1 + (8 - (b + 1)) = 8 by omega] at q3
  exact ⟨w, q3, by omega⟩
theorem DD_att {o : Nat → Nat → Option Nat} : ∀ (p S v : Nat), DD o p S = some v → ∃ r, Row o p S r ∧ tot o S r = v := by
  intro p
  induction p with
  | zero =>
    intro S v h
    have h' : (if S = 0 then some 0 else none) = some v := h
    by_cases c : S = 0
    · rw [if_pos c] at h'
      subst c
      refine ⟨fun _ => 0, ⟨fun b _ z => absurd z (by rw [Nat.zero_testBit]; decide), fun a b _ _ z => absurd z (by rw [Nat.zero_testBit]; decide)⟩, ?_⟩
      rw [← Option.some.inj h']
      unfold tot
      simp only [Nat.zero_testBit]
      rfl
    · rw [if_neg c] at h'; cases h'
  | succ p ih =>
    intro S v h
    rcases DB_some 8 h with q | ⟨b, x, y, q1, q2, q3, q4, q5⟩
    · obtain ⟨r, r1, r2⟩ := ih S v q
      exact ⟨r, ⟨fun b hb hs => ⟨Nat.lt_succ_of_lt (r1.1 b hb hs).1, (r1.1 b hb hs).2⟩, r1.2⟩, r2⟩
    · obtain ⟨r, r1, r2⟩ := ih (rmv S b) x q3
      refine ⟨fun i => if i = b then p else r i, ⟨fun i hi hs => ?_, fun i j hi hj si sj e => ?_⟩, ?_⟩
      · by_cases c : i = b
        · simp only [if_pos c]; subst c; exact ⟨Nat.lt_succ_self p, y, q4⟩
        · simp only [if_neg c]
          have g := r1.1 i hi ((rmv_sub q2).mpr ⟨hs, c⟩)
          exact ⟨Nat.lt_succ_of_lt g.1, g.2⟩
      · by_cases c : i = b
        · by_cases d : j = b
          · omega
          · simp only [if_pos c, if_neg d] at e
            have g := r1.1 j hj ((rmv_sub q2).mpr ⟨sj, d⟩)
            omega
        · by_cases d : j = b
          · simp only [if_neg c, if_pos d] at e
            have g := r1.1 i hi ((rmv_sub q2).mpr ⟨si, c⟩)
            omega
          · simp only [if_neg c, if_neg d] at e
            exact r1.2 i j hi hj ((rmv_sub q2).mpr ⟨si, c⟩) ((rmv_sub q2).mpr ⟨sj, d⟩) e
      · rw [tot_rmv (r' := r) q1 q2 (fun i hi => by simp only [if_neg hi]), r2, q5]
        simp only [if_true, q4, Option.getD_some]
theorem DD_bnd {o : Nat → Nat → Option Nat} : ∀ (p S : Nat) (r : Nat → Nat), S < 256 → Row o p S r → ∃ v, DD o p S = some v ∧ tot o S r ≤ v := by
  intro p
  induction p with
  | zero =>
    intro S r hS h
    have h0 : S = 0 := Nat.eq_of_testBit_eq fun j => by
      rw [Nat.zero_testBit]
      cases hb : S.testBit j with
      | false => rfl
      | true =>
        by_cases c : j < 8
        · exact absurd (h.1 j c hb).1 (by omega)
        · have := Nat.testBit_lt_two_pow (x := S) (i := j) (Nat.lt_of_lt_of_le hS (show 2 ^ 8 ≤ 2 ^ j from Nat.pow_le_pow_right (by decide) (by omega)))
          rw [hb] at this; cases this
    subst h0
    refine ⟨0, rfl, ?_⟩
    unfold tot
    simp only [Nat.zero_testBit]
    exact Nat.le_refl _
  | succ p ih =>
    intro S r hS h
    by_cases c : ∃ b, b < 8 ∧ S.testBit b = true ∧ r b = p
    · obtain ⟨b, hb, hs, e⟩ := c
      have hlt := rmv_lt hs
      obtain ⟨v, v1, v2⟩ := ih (rmv S b) r (by omega) ⟨fun i hi hi' => by
        have g := (rmv_sub hs).mp hi'
        have q := h.1 i hi g.1
        refine ⟨?_, q.2⟩
        have : r i ≠ p := fun z => g.2 (h.2 i b hi hb g.1 hs (by omega))
        omega, fun i j hi hj si sj => h.2 i j hi hj ((rmv_sub hs).mp si).1 ((rmv_sub hs).mp sj).1⟩
      obtain ⟨y, hy⟩ := (h.1 b hb hs).2
      rw [e] at hy
      obtain ⟨w, w1, w2⟩ := DB_take (o := o) hb hs v1 hy
      refine ⟨w, w1, ?_⟩
      rw [tot_rmv (r' := r) hb hs (fun _ _ => rfl), e, hy]
      simp only [Option.getD_some]
      omega
    · obtain ⟨v, v1, v2⟩ := ih S r hS ⟨fun i hi hi' => by
        have q := h.1 i hi hi'
        refine ⟨?_, q.2⟩
        have : r i ≠ p := fun z => c ⟨i, hi, hi', z⟩
        omega, h.2⟩
      obtain ⟨w, w1, w2⟩ := DB_keep (o := o) (p := p) v1
      exact ⟨w, w1, by omega⟩
theorem pig : ∀ (n : Nat) (f : Nat → Nat), (∀ i, i ≤ n → f i < n) → ∃ i j, i < j ∧ j ≤ n ∧ f i = f j := by
  intro n
  induction n with
  | zero => intro f h; have := h 0 (by omega); omega
  | succ n ih =>
    intro f h
    by_cases c : ∃ i, i ≤ n ∧ f i = f (n + 1)
    · obtain ⟨i, h1, h2⟩ := c
      exact ⟨i, n + 1, by omega, by omega, h2⟩
    · have hne : ∀ i, i ≤ n → f i ≠ f (n + 1) := fun i hi z => c ⟨i, hi, z⟩
      obtain ⟨i, j, h1, h2, h3⟩ := ih (fun i => if f (n + 1) < f i then f i - 1 else f i) (fun i hi => by
        have a1 := h i (by omega)
        have a2 := h (n + 1) (by omega)
        have a3 := hne i hi
        show (if f (n + 1) < f i then f i - 1 else f i) < n
        split <;> omega)
      refine ⟨i, j, h1, by omega, ?_⟩
      have a1 := hne i (by omega)
      have a2 := hne j (by omega)
      split at h3 <;> split at h3 <;> omega
-- mixed digits
def HR (R d : Nat → Nat) : Nat → Nat
  | 0 => 0
  | n + 1 => HR R d n * R n + d n
theorem hcmp1 {a b R x y : Nat} (hx : x < R) (hy : y < R) : a * R + x < b * R + y ↔ (a < b ∨ (a = b ∧ x < y)) := by
  constructor
  · intro h
    rcases Nat.lt_trichotomy a b with c | c | c
    · exact Or.inl c
    · subst c; exact Or.inr ⟨rfl, by omega⟩
    · have : (b + 1) * R ≤ a * R := Nat.mul_le_mul_right R c
      rw [Nat.add_mul] at this; omega
  · rintro (c | ⟨c, d⟩)
    · have : (a + 1) * R ≤ b * R := Nat.mul_le_mul_right R c
      rw [Nat.add_mul] at this; omega
    · subst c; omega
theorem hcmp2 {a b R x y : Nat} (hx : x < R) (hy : y < R) : a * R + x = b * R + y ↔ (a = b ∧ x = y) := by
  have h1 := hcmp1 (a := a) (b := b) hx hy
  have h2 := hcmp1 (a := b) (b := a) hy hx
  constructor
  · intro h
    rcases Nat.lt_trichotomy a b with c | c | c
    · have := h1.mpr (Or.inl c); omega
    · subst c; exact ⟨rfl, by omega⟩
    · have := h2.mpr (Or.inl c); omega
  · rintro ⟨rfl, rfl⟩; rfl
theorem HR_cmp {R R' d d' e e' : Nat → Nat} : ∀ n, (∀ i, i < n → d i < R i ∧ d' i < R i ∧ e i < R' i ∧ e' i < R' i ∧ (d i < d' i ↔ e i < e' i) ∧ (d i = d' i ↔ e i = e' i)) → (HR R d n < HR R d' n ↔ HR R' e n < HR R' e' n) ∧ (HR R d n = HR R d' n ↔ HR R' e n = HR R' e' n) := by
  intro n
  induction n with
  | zero => intro _; exact ⟨Iff.rfl, Iff.rfl⟩
  | succ n ih =>
    intro h
    obtain ⟨i1, i2⟩ := ih (fun i hi => h i (by omega))
    obtain ⟨a1, a2, a3, a4, a5, a6⟩ := h n (by omega)
    constructor
    · show HR R d n * R n + d n < HR R d' n * R n + d' n ↔ HR R' e n * R' n + e n < HR R' e' n * R' n + e' n
      rw [hcmp1 a1 a2, hcmp1 a3 a4, i1, i2, a5]
    · show HR R d n * R n + d n = HR R d' n * R n + d' n ↔ HR R' e n * R' n + e n = HR R' e' n * R' n + e' n
      rw [hcmp2 a1 a2, hcmp2 a3 a4, i2, a6]
theorem HR_eq {R d d' : Nat → Nat} : ∀ n, (∀ i, i < n → d i < R i ∧ d' i < R i) → HR R d n = HR R d' n → ∀ i, i < n → d i = d' i := by
  intro n
  induction n with
  | zero => intro _ _ i hi; omega
  | succ n ih =>
    intro h e i hi
    have := (hcmp2 (h n (by omega)).1 (h n (by omega)).2).mp e
    by_cases c : i = n
    · subst c; exact this.2
    · exact ih (fun j hj => h j (by omega)) this.1 i (by omega)
/-- the weights of the last k digits of eight -/
def PR (R : Nat → Nat) : Nat → Nat
  | 0 => 1
  | k + 1 => PR R k * R (7 - k)
theorem HR_sum {R d : Nat → Nat} : ∀ n, n ≤ 8 → sumN (fun b => d b * PR R (7 - b)) n = HR R d n * PR R (8 - n) := by
  intro n
  induction n with
  | zero => intro _; show 0 = 0 * _; omega
  | succ n ih =>
    intro h
    rw [sumN_succ, ih (by omega)]
    show _ = (HR R d n * R n + d n) * PR R (8 - (n + 1))
    have e : 8 - n = (7 - n) + 1 := by omega
    rw [e, show 8 - (n + 1) = 7 - n by omega]
    show HR R d n * (PR R (7 - n) * R (7 - (7 - n))) + _ = _
    rw [show 7 - (7 - n) = n by omega, Nat.add_mul, Nat.mul_comm (PR R (7 - n)) (R n), Nat.mul_assoc]
theorem HR_div {R d : Nat → Nat} (h : ∀ i, i < 8 → d i < R i) : ∀ k, k ≤ 8 → HR R d 8 / PR R k = HR R d (8 - k) := by
  intro k
  induction k with
  | zero => intro _; show HR R d 8 / 1 = _; rw [Nat.div_one]
  | succ k ih =>
    intro hk
    show HR R d 8 / (PR R k * R (7 - k)) = _
    rw [← Nat.div_div_eq_div_mul, ih (by omega), show 8 - k = (7 - k) + 1 by omega]
    show (HR R d (7 - k) * R (7 - k) + d (7 - k)) / R (7 - k) = HR R d (8 - (k + 1))
    have g := h (7 - k) (by omega)
    rw [show 8 - (k + 1) = 7 - k by omega, Nat.mul_comm, Nat.mul_add_div (by omega), Nat.div_eq_of_lt g]; omega
theorem HR_dig {R d : Nat → Nat} (h : ∀ i, i < 8 → d i < R i) {b : Nat} (hb : b < 8) : HR R d 8 / PR R (7 - b) % R b = d b := by
  rw [HR_div h (7 - b) (by omega), show 8 - (7 - b) = b + 1 by omega]
  show (HR R d b * R b + d b) % R b = d b
  rw [Nat.mul_comm, Nat.mul_add_mod, Nat.mod_eq_of_lt (h b hb)]
theorem HR_lt {R d : Nat → Nat} {B : Nat} (hB : ∀ i, i < 8 → R i ≤ B) (h : ∀ i, i < 8 → d i < R i) : ∀ n, n ≤ 8 → HR R d n + 1 ≤ B ^ n := by
  intro n
  induction n with
  | zero => intro _; exact Nat.le_refl 1
  | succ n ih =>
    intro hn
    show HR R d n * R n + d n + 1 ≤ B ^ n * B
    have g := h n (by omega)
    have a : (HR R d n + 1) * R n ≤ B ^ n * B := Nat.mul_le_mul (ih (by omega)) (hB n (by omega))
    rw [Nat.add_mul] at a
    omega
theorem PR_le {R : Nat → Nat} {B : Nat} (hB : ∀ i, i < 8 → R i ≤ B) : ∀ k, k ≤ 8 → PR R k ≤ B ^ k := by
  intro k
  induction k with
  | zero => intro _; exact Nat.le_refl 1
  | succ k ih => intro hk; exact Nat.mul_le_mul (ih (by omega)) (hB (7 - k) (by omega))
theorem PR_pos {R : Nat → Nat} (hB : ∀ i, i < 8 → 0 < R i) : ∀ k, k ≤ 8 → 0 < PR R k := by
  intro k
  induction k with
  | zero => intro _; exact Nat.one_pos
  | succ k ih => intro hk; exact Nat.mul_pos (ih (by omega)) (hB (7 - k) (by omega))
