-- part gg: the eight best squares of a buyer are enough
abbrev TL : Type := (Nat → Nat) × (Nat → Nat) × Nat
def wmin (w : Nat → Nat) : Nat → Nat
  | 0 => 0
  | k + 1 => if w (wmin w k) < w (k + 1) then wmin w k else k + 1
theorem wmin_ok (w : Nat → Nat) : ∀ n, wmin w n ≤ n ∧ ∀ k, k ≤ n → w (wmin w n) < w k ∨ (w (wmin w n) = w k ∧ k ≤ wmin w n) := by
  intro n
  induction n with
  | zero => exact ⟨Nat.le_refl _, fun k hk => Or.inr ⟨by rw [show k = 0 by omega]; rfl, by rw [show k = 0 by omega]; exact Nat.le_refl _⟩⟩
  | succ n ih =>
    obtain ⟨i1, i2⟩ := ih
    show (if w (wmin w n) < w (n + 1) then wmin w n else n + 1) ≤ n + 1 ∧ ∀ k, k ≤ n + 1 → w (if w (wmin w n) < w (n + 1) then wmin w n else n + 1) < w k ∨ _
    by_cases c : w (wmin w n) < w (n + 1)
    · simp only [wmin, if_pos c]
      refine ⟨by omega, fun k hk => ?_⟩
      by_cases d : k = n + 1
      · subst d; exact Or.inl c
      · exact i2 k (by omega)
    · simp only [wmin, if_neg c]
      refine ⟨Nat.le_refl _, fun k hk => ?_⟩
      by_cases d : k = n + 1
      · subst d; exact Or.inr ⟨rfl, Nat.le_refl _⟩
      · have := i2 k (by omega); omega
def sft (j i : Nat) : Nat := if j ≤ i then i + 1 else i
def putF (f : Nat → Nat) (j q : Nat) : Nat → Nat := fun i => if i = 7 then q else f (sft j i)
def addF (f : Nat → Nat) (c q : Nat) : Nat → Nat := fun i => if i = c then q else f i
def want1 (t : TL) (q x : Nat) : TL :=
  if t.2.2 = 8 then (if t.2.1 (wmin t.2.1 7) < x then (putF t.1 (wmin t.2.1 7) q, putF t.2.1 (wmin t.2.1 7) x, 8) else t) else (addF t.1 t.2.2 q, addF t.2.1 t.2.2 x, t.2.2 + 1)
def top8 (sh : Nat → Bool) (w : Nat → Nat) : Nat → TL
  | 0 => (fun _ => 0, fun _ => 0, 0)
  | p + 1 => if sh p = true then want1 (top8 sh w p) p (w p) else top8 sh w p
def T8k (sh : Nat → Bool) (w : Nat → Nat) (p : Nat) (t : TL) : Prop := t.2.2 ≤ 8 ∧ (∀ i, i < t.2.2 → t.1 i < p ∧ sh (t.1 i) = true ∧ t.2.1 i = w (t.1 i)) ∧ (∀ i j, i < j → j < t.2.2 → t.1 i < t.1 j) ∧ ∀ q, q < p → sh q = true → (∃ i, i < t.2.2 ∧ t.1 i = q) ∨ (t.2.2 = 8 ∧ ∀ i, i < 8 → w q < t.2.1 i ∨ (w q = t.2.1 i ∧ t.1 i < q))
theorem want1_ok {sh : Nat → Bool} {w : Nat → Nat} {p : Nat} {t : TL} (h : T8k sh w p t) (hp : sh p = true) : T8k sh w (p + 1) (want1 t p (w p)) := by
  obtain ⟨h1, h2, h3, h4⟩ := h
  unfold want1
  by_cases c : t.2.2 = 8
  · rw [if_pos c]
    obtain ⟨m1, m2⟩ := wmin_ok t.2.1 7
    generalize hj : wmin t.2.1 7 = j at m1 m2
    rw [c] at h2 h3
    by_cases d : t.2.1 j < w p
    · rw [if_pos d]
      have hs : ∀ i, i < 7 → sft j i < 8 ∧ sft j i ≠ j := fun i hi => by unfold sft; split <;> omega
      refine ⟨Nat.le_refl 8, fun i hi => ?_, fun i k hik hk => ?_, fun q hq hs' => ?_⟩
      · show putF t.1 j p i < p + 1 ∧ sh (putF t.1 j p i) = true ∧ putF t.2.1 j (w p) i = w (putF t.1 j p i)
        change i < 8 at hi
        unfold putF
        by_cases e : i = 7
        · simp only [if_pos e]; exact ⟨Nat.lt_succ_self p, hp, trivial⟩
        · simp only [if_neg e]
          have g := h2 (sft j i) (hs i (by omega)).1
          exact ⟨by omega, g.2.1, g.2.2⟩
      · change k < 8 at hk
        show putF t.1 j p i < putF t.1 j p k
        unfold putF
        simp only [if_neg (show ¬ i = 7 by omega)]
        by_cases e : k = 7
        · simp only [if_pos e]; exact (h2 (sft j i) (hs i (by omega)).1).1
        · simp only [if_neg e]
          exact h3 _ _ (by unfold sft; split <;> split <;> omega) (hs k (by omega)).1
      · show (∃ i, i < 8 ∧ putF t.1 j p i = q) ∨ (8 = 8 ∧ ∀ i, i < 8 → w q < putF t.2.1 j (w p) i ∨ (w q = putF t.2.1 j (w p) i ∧ putF t.1 j p i < q))
        by_cases e : q = p
        · exact Or.inl ⟨7, by omega, by unfold putF; rw [if_pos rfl, e]⟩
        · have hout : (∀ i, i < 8 → i ≠ j → w q < t.2.1 i ∨ (w q = t.2.1 i ∧ t.1 i < q)) → w q < w p → ∀ i, i < 8 → w q < putF t.2.1 j (w p) i ∨ (w q = putF t.2.1 j (w p) i ∧ putF t.1 j p i < q) := fun g1 g2 i hi => by
            unfold putF
            by_cases e7 : i = 7
            · simp only [if_pos e7]; exact Or.inl g2
            · simp only [if_neg e7]
              exact g1 (sft j i) (hs i (by omega)).1 (hs i (by omega)).2
          rcases h4 q (by omega) hs' with ⟨i, hi, ei⟩ | ⟨-, g⟩
          · rw [c] at hi
            by_cases f : i = j
            · subst f
              right
              refine ⟨rfl, hout (fun k hk hkj => ?_) ?_⟩
              · have a1 := m2 k (by omega)
                have a2 := (h2 i hi).2.2
                rw [ei] at a2
                rw [← a2]
                rcases a1 with a1 | ⟨a1, a3⟩
                · exact Or.inl a1
                · exact Or.inr ⟨a1, by rw [← ei]; exact h3 k i (by omega) hi⟩
              · have a2 := (h2 i hi).2.2
                rw [ei] at a2
                omega
            · left
              refine ⟨if i < j then i else i - 1, by split <;> omega, ?_⟩
              unfold putF
              rw [if_neg (by split <;> omega), show sft j (if i < j then i else i - 1) = i by unfold sft; split <;> split <;> omega, ei]
          · right
            refine ⟨rfl, hout (fun k hk _ => g k hk) ?_⟩
            have := g j (by omega)
            omega
    · rw [if_neg d]
      rw [← c] at h2 h3
      refine ⟨h1, fun i hi => ⟨by have := (h2 i hi).1; omega, (h2 i hi).2⟩, h3, fun q hq hs' => ?_⟩
      by_cases e : q = p
      · subst e
        right
        refine ⟨c, fun i hi => ?_⟩
        have a1 := m2 i (by omega)
        have a2 := (h2 i (by omega)).1
        omega
      · exact h4 q (by omega) hs'
  · rw [if_neg c]
    refine ⟨by show t.2.2 + 1 ≤ 8; omega, fun i hi => ?_, fun i k hik hk => ?_, fun q hq hs' => ?_⟩
    · change i < t.2.2 + 1 at hi
      show addF t.1 t.2.2 p i < p + 1 ∧ sh (addF t.1 t.2.2 p i) = true ∧ addF t.2.1 t.2.2 (w p) i = w (addF t.1 t.2.2 p i)
      unfold addF
      by_cases e : i = t.2.2
      · simp only [if_pos e]; exact ⟨Nat.lt_succ_self p, hp, trivial⟩
      · simp only [if_neg e]
        have g := h2 i (by omega)
        exact ⟨by omega, g.2⟩
    · change k < t.2.2 + 1 at hk
      show addF t.1 t.2.2 p i < addF t.1 t.2.2 p k
      unfold addF
      simp only [if_neg (show ¬ i = t.2.2 by omega)]
      by_cases e : k = t.2.2
      · simp only [if_pos e]; exact (h2 i (by omega)).1
      · simp only [if_neg e]; exact h3 i k hik (by omega)
    · left
      show ∃ i, i < t.2.2 + 1 ∧ addF t.1 t.2.2 p i = q
      by_cases e : q = p
      · exact ⟨t.2.2, by omega, by unfold addF; rw [if_pos rfl, e]⟩
      · rcases h4 q (by omega) hs' with ⟨i, hi, ei⟩ | ⟨g, -⟩
        · exact ⟨i, by omega, by unfold addF; rw [if_neg (by omega), ei]⟩
        · exact absurd g c
theorem top8_ok (sh : Nat → Bool) (w : Nat → Nat) : ∀ p, T8k sh w p (top8 sh w p) := by
  intro p
  induction p with
  | zero => exact ⟨Nat.zero_le _, fun i hi => absurd hi (Nat.not_lt_zero i), fun i j _ hj => absurd hj (Nat.not_lt_zero j), fun q hq => absurd hq (Nat.not_lt_zero q)⟩
  | succ p ih =>
    show T8k sh w (p + 1) (if sh p = true then want1 (top8 sh w p) p (w p) else top8 sh w p)
    by_cases c : sh p = true
    · rw [if_pos c]; exact want1_ok ih c
    · rw [if_neg c]
      obtain ⟨h1, h2, h3, h4⟩ := ih
      refine ⟨h1, fun i hi => ⟨by have := (h2 i hi).1; omega, (h2 i hi).2⟩, h3, fun q hq hs => ?_⟩
      by_cases e : q = p
      · subst e; exact absurd hs c
      · exact h4 q (by omega) hs
def cur (t : TL) : Nat → Nat
  | 0 => 0
  | p + 1 => if cur t p < t.2.2 ∧ t.1 (cur t p) = p then cur t p + 1 else cur t p
theorem cur_ok {t : TL} (h3 : ∀ i j, i < j → j < t.2.2 → t.1 i < t.1 j) : ∀ p, cur t p ≤ t.2.2 ∧ ∀ i, i < t.2.2 → (i < cur t p ↔ t.1 i < p) := by
  intro p
  induction p with
  | zero => exact ⟨Nat.zero_le _, fun i _ => ⟨fun h => absurd h (Nat.not_lt_zero i), fun h => absurd h (Nat.not_lt_zero _)⟩⟩
  | succ p ih =>
    obtain ⟨i1, i2⟩ := ih
    show (if cur t p < t.2.2 ∧ t.1 (cur t p) = p then cur t p + 1 else cur t p) ≤ t.2.2 ∧ ∀ i, i < t.2.2 → (i < (if cur t p < t.2.2 ∧ t.1 (cur t p) = p then cur t p + 1 else cur t p) ↔ t.1 i < p + 1)
    by_cases c : cur t p < t.2.2 ∧ t.1 (cur t p) = p
    · rw [if_pos c]
      obtain ⟨c1, c2⟩ := c
      refine ⟨c1, fun i hi => ?_⟩
      have g := i2 i hi
      rcases Nat.lt_trichotomy i (cur t p) with e | e | e
      · have := g.mp e; constructor <;> intro <;> omega
      · rw [e, c2]; constructor <;> intro <;> omega
      · have := h3 _ _ e hi; constructor <;> intro <;> omega
    · rw [if_neg c]
      refine ⟨i1, fun i hi => ?_⟩
      have g := i2 i hi
      have hne : t.1 i ≠ p := fun z => by
        have : ¬ i < cur t p := fun y => by have := g.mp y; omega
        rcases Nat.lt_or_ge (cur t p) t.2.2 with d | d
        · have hne : t.1 (cur t p) ≠ p := fun y => c ⟨d, y⟩
          have hlt : cur t p < i := by
            rcases Nat.lt_trichotomy (cur t p) i with e | e | e
            · exact e
            · rw [e] at hne; exact absurd z hne
            · omega
          have a1 := h3 _ _ hlt hi
          have a2 := (i2 _ d).mpr (by omega)
          omega
        · omega
      rw [g]; constructor <;> intro <;> omega
theorem cur_at {t : TL} (h3 : ∀ i j, i < j → j < t.2.2 → t.1 i < t.1 j) {i : Nat} (hi : i < t.2.2) : cur t (t.1 i) = i := by
  obtain ⟨a, b⟩ := cur_ok h3 (t.1 i)
  have b1 := b i hi
  rcases Nat.lt_trichotomy (cur t (t.1 i)) i with e | e | e
  · have b2 := (b _ (by omega)).mpr (h3 _ _ e hi); omega
  · exact e
  · have := b1.mp e; omega
