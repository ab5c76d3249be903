-- ===== sums of 32 bits =====
def sumI (f : Nat → Int32) : Nat → Int32
  | 0 => 0
  | m + 1 => sumI f m + f m
theorem sumI_succ (f : Nat → Int32) (m : Nat) : sumI f (m + 1) = sumI f m + f m := rfl
theorem sumI_congr {f g : Nat → Int32} : ∀ m, (∀ i, i < m → f i = g i) → sumI f m = sumI g m := by
  intro m
  induction m with
  | zero => intro _; rfl
  | succ m ih =>
    intro h
    rw [sumI_succ, sumI_succ, ih (fun i hi => h i (by omega)), h m (by omega)]
theorem sumI_split (f : Nat → Int32) (a : Nat) : ∀ m, sumI f (a + m) = sumI f a + sumI (fun i => f (a + i)) m := by
  intro m
  induction m with
  | zero => show sumI f a = sumI f a + 0; rw [Int32.add_zero]
  | succ m ih => rw [← Nat.add_assoc, sumI_succ, ih, sumI_succ, Int32.add_assoc]
theorem sumI_flat {f : Nat → Int32} {g : Nat → Nat → Int32} {w : Nat} : ∀ n, (∀ h, h < n → ∀ s, s < w → f (w * h + s) = g h s) → sumI f (w * n) = sumI (fun h => sumI (g h) w) n := by
  intro n
  induction n with
  | zero => intro _; rfl
  | succ n ih =>
    intro h
    rw [Nat.mul_succ, sumI_split, ih (fun a ha => h a (by omega)), sumI_succ]
    congr 1
    exact sumI_congr w (fun i hi => h n (by omega) i hi)
theorem sumI_zero {f : Nat → Int32} : ∀ m, (∀ i, i < m → f i = 0) → sumI f m = 0 := by
  intro m
  induction m with
  | zero => intro _; rfl
  | succ m ih =>
    intro h
    rw [sumI_succ, ih (fun i hi => h i (by omega)), h m (by omega)]
    rfl
theorem sumI_one {f : Nat → Int32} {j : Nat} : ∀ m, j < m → (∀ i, i < m → i ≠ j → f i = 0) → sumI f m = f j := by
  intro m
  induction m with
  | zero => intro h; omega
  | succ m ih =>
    intro hj h
    rw [sumI_succ]
    by_cases e : j = m
    · subst e
      rw [sumI_zero j (fun i hi => h i (by omega) (by omega)), Int32.zero_add]
    · rw [ih (by omega) (fun i hi => h i (by omega)), h m (by omega) (by omega), Int32.add_zero]
theorem sumI_add (f g : Nat → Int32) : ∀ m, sumI (fun i => f i + g i) m = sumI f m + sumI g m := by
  intro m
  induction m with
  | zero => rfl
  | succ m ih =>
    rw [sumI_succ, sumI_succ, sumI_succ, ih]
    rw [Int32.add_assoc, Int32.add_assoc, ← Int32.add_assoc (sumI g m), Int32.add_comm (sumI g m) (f m), Int32.add_assoc]
theorem sumI_comm (f : Nat → Nat → Int32) (n : Nat) : ∀ m, sumI (fun i => sumI (f i) n) m = sumI (fun j => sumI (fun i => f i j) m) n := by
  intro m
  induction m with
  | zero => exact (sumI_zero n (fun _ _ => rfl)).symm
  | succ m ih =>
    rw [sumI_succ, ih, ← sumI_add]
    exact sumI_congr n (fun j _ => rfl)
/-- a loop whose states are known -/
theorem loopS {A R : Type} {L : Nat → A → Option R} (P : Nat → A) (r : R) (m : Nat) (hs : ∀ k i, i < m → L (k + 1) (P i) = L k (P (i + 1))) (he : ∀ k, L (k + 1) (P m) = some r) {K : Nat} (hK : m < K) : L K (P 0) = some r := by
  have h : ∀ d K i, i + d = m → d < K → L K (P i) = some r := by
    intro d
    induction d with
    | zero =>
      intro K i e hK
      obtain ⟨k, rfl⟩ : ∃ z, K = z + 1 := ⟨K - 1, by omega⟩
      have e' : i = m := by omega
      subst e'
      exact he k
    | succ d ih =>
      intro K i e hK
      obtain ⟨k, rfl⟩ : ∃ z, K = z + 1 := ⟨K - 1, by omega⟩
      rw [hs k i (by omega)]
      exact ih k (i + 1) (by omega) (by omega)
  exact h m K 0 (by omega) hK
