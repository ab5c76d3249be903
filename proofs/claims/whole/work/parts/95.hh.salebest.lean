-- part hh: the best sale over all squares is the best over the listed ones
def tl (m : Nat) (sh : Nat → Bool) (w : Nat → Nat → Nat) (b : Nat) : TL := if m.testBit b = true then top8 sh (w b) 144 else (fun _ => 0, fun _ => 0, 0)
def oC (m : Nat) (sh : Nat → Bool) (w : Nat → Nat → Nat) (b q : Nat) : Option Nat := if cur (tl m sh w b) q < (tl m sh w b).2.2 ∧ (tl m sh w b).1 (cur (tl m sh w b) q) = q then some (w b q * 4294967296 + (8 - cur (tl m sh w b) q) * PR (fun _ => 16) (7 - b)) else none
def RM (m i : Nat) : Nat := if m.testBit i = true then 145 else 1
def MM : Nat := 195408755062890625
def oR (m : Nat) (sh : Nat → Bool) (w : Nat → Nat → Nat) (b q : Nat) : Option Nat := if m.testBit b = true ∧ sh q = true then some (w b q * MM + (144 - q) * PR (RM m) (7 - b)) else none
def vl (w : Nat → Nat → Nat) (S : Nat) (r : Nat → Nat) : Nat := sumN (fun b => if S.testBit b = true then w b (r b) else 0) 8
def dR (S : Nat) (r : Nat → Nat) (b : Nat) : Nat := if S.testBit b = true then 144 - r b else 0
def dK (m : Nat) (sh : Nat → Bool) (w : Nat → Nat → Nat) (S : Nat) (r : Nat → Nat) (b : Nat) : Nat := if S.testBit b = true then 8 - cur (tl m sh w b) (r b) else 0
theorem sumN_lin {f g h : Nat → Nat} {K : Nat} : ∀ m, (∀ i, i < m → f i = g i * K + h i) → sumN f m = sumN g m * K + sumN h m := by
  intro m
  induction m with
  | zero => intro _; show 0 = 0 * K + 0; omega
  | succ m ih =>
    intro h'
    rw [sumN_succ, sumN_succ, sumN_succ, ih (fun i hi => h' i (by omega)), h' m (by omega), Nat.add_mul]; omega
theorem tot_lin {o : Nat → Nat → Option Nat} {w : Nat → Nat → Nat} {R d : Nat → Nat} {S K : Nat} {r : Nat → Nat} (h : ∀ b, b < 8 → S.testBit b = true → (o b (r b)).getD 0 = w b (r b) * K + d b * PR R (7 - b)) (h0 : ∀ b, b < 8 → S.testBit b = false → d b = 0) : tot o S r = vl w S r * K + HR R d 8 := by
  have e := HR_sum (R := R) (d := d) 8 (Nat.le_refl 8)
  rw [show PR R (8 - 8) = 1 from rfl, Nat.mul_one] at e
  rw [← e]
  unfold tot vl
  refine sumN_lin 8 (fun i hi => ?_)
  cases c : S.testBit i with
  | true => simp only [if_true]; exact h i hi c
  | false => simp only [if_neg (show ¬ (false = true) by decide), h0 i hi c]; omega
theorem tot_oR {m : Nat} {sh : Nat → Bool} {w : Nat → Nat → Nat} {p S : Nat} {r : Nat → Nat} (h : Row (oR m sh w) p S r) : tot (oR m sh w) S r = vl w S r * MM + HR (RM m) (dR S r) 8 := by
  refine tot_lin (fun b hb hs => ?_) (fun b _ hs => by unfold dR; rw [hs]; rfl)
  obtain ⟨-, y, hy⟩ := h.1 b hb hs
  have hy' := hy
  unfold oR at hy'
  unfold dR
  rw [if_pos hs]
  by_cases c : m.testBit b = true ∧ sh (r b) = true
  · unfold oR; rw [if_pos c]; rfl
  · rw [if_neg c] at hy'; cases hy'
theorem tot_oC {m : Nat} {sh : Nat → Bool} {w : Nat → Nat → Nat} {p S : Nat} {r : Nat → Nat} (h : Row (oC m sh w) p S r) : tot (oC m sh w) S r = vl w S r * 4294967296 + HR (fun _ => 16) (dK m sh w S r) 8 := by
  refine tot_lin (fun b hb hs => ?_) (fun b _ hs => by unfold dK; rw [hs]; rfl)
  obtain ⟨-, y, hy⟩ := h.1 b hb hs
  have hy' := hy
  unfold oC at hy'
  unfold dK
  rw [if_pos hs]
  by_cases c : cur (tl m sh w b) (r b) < (tl m sh w b).2.2 ∧ (tl m sh w b).1 (cur (tl m sh w b) (r b)) = r b
  · unfold oC; rw [if_pos c]; rfl
  · rw [if_neg c] at hy'; cases hy'
theorem tl_ok {m : Nat} {sh : Nat → Bool} {w : Nat → Nat → Nat} {b : Nat} : (tl m sh w b).2.2 ≤ 8 ∧ ∀ i j, i < j → j < (tl m sh w b).2.2 → (tl m sh w b).1 i < (tl m sh w b).1 j := by
  unfold tl
  by_cases c : m.testBit b = true
  · rw [if_pos c]
    exact ⟨(top8_ok sh (w b) 144).1, (top8_ok sh (w b) 144).2.2.1⟩
  · rw [if_neg c]
    exact ⟨Nat.zero_le _, fun i j _ h => absurd h (Nat.not_lt_zero j)⟩
theorem oC_some {m : Nat} {sh : Nat → Bool} {w : Nat → Nat → Nat} {b q y : Nat} (h : oC m sh w b q = some y) : m.testBit b = true ∧ sh q = true ∧ q < 144 ∧ ∃ a, a < (tl m sh w b).2.2 ∧ a < 8 ∧ (tl m sh w b).1 a = q ∧ cur (tl m sh w b) q = a ∧ (tl m sh w b).2.1 a = w b q := by
  unfold oC at h
  by_cases c : cur (tl m sh w b) q < (tl m sh w b).2.2 ∧ (tl m sh w b).1 (cur (tl m sh w b) q) = q
  · obtain ⟨c1, c2⟩ := c
    have l8 := (tl_ok (m := m) (sh := sh) (w := w) (b := b)).1
    by_cases d : m.testBit b = true
    · have e : tl m sh w b = top8 sh (w b) 144 := by unfold tl; rw [if_pos d]
      have g := (top8_ok sh (w b) 144).2.1 (cur (tl m sh w b) q) (by rw [← e]; exact c1)
      rw [← e] at g
      rw [c2] at g
      exact ⟨d, g.2.1, g.1, _, c1, by omega, c2, rfl, g.2.2⟩
    · have e : (tl m sh w b).2.2 = 0 := by unfold tl; rw [if_neg d]
      omega
  · rw [if_neg c] at h; cases h
theorem oC_at {m : Nat} {sh : Nat → Bool} {w : Nat → Nat → Nat} {b i : Nat} (hi : i < (tl m sh w b).2.2) : ∃ y, oC m sh w b ((tl m sh w b).1 i) = some y := by
  have e := cur_at (tl_ok (m := m) (sh := sh) (w := w) (b := b)).2 hi
  unfold oC
  rw [e, if_pos ⟨hi, rfl⟩]
  exact ⟨_, rfl⟩
theorem oR_some {m : Nat} {sh : Nat → Bool} {w : Nat → Nat → Nat} {b q y : Nat} (h : oR m sh w b q = some y) : m.testBit b = true ∧ sh q = true ∧ y = w b q * MM + (144 - q) * PR (RM m) (7 - b) := by
  unfold oR at h
  by_cases c : m.testBit b = true ∧ sh q = true
  · rw [if_pos c] at h; exact ⟨c.1, c.2, (Option.some.inj h).symm⟩
  · rw [if_neg c] at h; cases h
theorem oR_at {m : Nat} {sh : Nat → Bool} {w : Nat → Nat → Nat} {b q : Nat} (h1 : m.testBit b = true) (h2 : sh q = true) : oR m sh w b q = some (w b q * MM + (144 - q) * PR (RM m) (7 - b)) := by
  unfold oR; rw [if_pos ⟨h1, h2⟩]
theorem RM_le (m i : Nat) : RM m i ≤ 145 ∧ 0 < RM m i := by unfold RM; split <;> omega
theorem PRM_le {m b : Nat} : PR (RM m) (7 - b) ≤ 1347646586640625 ∧ 0 < PR (RM m) (7 - b) := by
  have h1 := PR_le (R := RM m) (B := 145) (fun i _ => (RM_le m i).1) (7 - b) (by omega)
  have h2 : 145 ^ (7 - b) ≤ 145 ^ 7 := Nat.pow_le_pow_right (by decide) (by omega)
  exact ⟨by rw [show (145 : Nat) ^ 7 = 1347646586640625 by decide] at h2; omega, PR_pos (fun i _ => (RM_le m i).2) _ (by omega)⟩
theorem free8 {S b : Nat} {r f : Nat → Nat} (hb : b < 8) (hf : ∀ i j, i < j → j < 8 → f i < f j) : ∃ i, i < 8 ∧ ∀ a, a < 8 → a ≠ b → S.testBit a = true → r a ≠ f i := by
  refine Classical.byContradiction fun hn => ?_
  have h : ∀ i, ∃ a, i < 8 → a < 8 ∧ a ≠ b ∧ r a = f i := fun i => by
    refine Classical.byContradiction fun hm => ?_
    have hi : i < 8 := Classical.byContradiction fun z => hm ⟨0, fun y => absurd y z⟩
    exact hn ⟨i, hi, fun a ha hab _ e => hm ⟨a, fun _ => ⟨ha, hab, e⟩⟩⟩
  obtain ⟨g, hg⟩ := Classical.axiomOfChoice h
  obtain ⟨i, j, hij, hj, e⟩ := pig 7 (fun i => if g i < b then g i else g i - 1) (fun i hi => by
    have := hg i (by omega)
    show (if g i < b then g i else g i - 1) < 7
    split <;> omega)
  have a1 := hg i (by omega)
  have a2 := hg j (by omega)
  have e' : (if g i < b then g i else g i - 1) = (if g j < b then g j else g j - 1) := e
  have a3 : g i = g j := by split at e' <;> split at e' <;> omega
  have a4 := hf i j hij (by omega)
  rw [a3] at a1
  omega
theorem sale_top {m m' : Nat} {sh : Nat → Bool} {w : Nat → Nat → Nat} {S : Nat} {r : Nat → Nat} (hm : sbs m' m) (hr : Row (oR m' sh w) 144 S r) (hopt : ∀ r', Row (oR m' sh w) 144 S r' → tot (oR m' sh w) S r' ≤ tot (oR m' sh w) S r) : Row (oC m sh w) 144 S r := by
  refine ⟨fun b hb hs => ⟨(hr.1 b hb hs).1, ?_⟩, hr.2⟩
  obtain ⟨hq, y, hy⟩ := hr.1 b hb hs
  obtain ⟨y1, y2, y3⟩ := oR_some hy
  have e : tl m sh w b = top8 sh (w b) 144 := by unfold tl; rw [if_pos (hm b y1)]
  obtain ⟨t1, t2, t3, t4⟩ := top8_ok sh (w b) 144
  rcases t4 (r b) hq y2 with ⟨i, hi, ei⟩ | ⟨c8, g⟩
  · have := oC_at (m := m) (sh := sh) (w := w) (b := b) (i := i) (by rw [e]; exact hi)
    rw [e, ei] at this
    exact this
  · exfalso
    obtain ⟨i, hi, hfree⟩ := free8 (S := S) (r := r) hb (fun i j hij hj => t3 i j hij (by rw [c8]; exact hj))
    have ti := t2 i (by rw [c8]; exact hi)
    generalize hq' : (top8 sh (w b) 144).1 i = q' at ti hfree
    have gi := g i hi
    rw [ti.2.2, hq'] at gi
    have hrow : Row (oR m' sh w) 144 S (fun k => if k = b then q' else r k) := by
      refine ⟨fun k hk hks => ?_, fun k j hk hj sk sj ek => ?_⟩
      · by_cases c : k = b
        · simp only [if_pos c]; subst c; exact ⟨ti.1, _, oR_at y1 ti.2.1⟩
        · simp only [if_neg c]; exact hr.1 k hk hks
      · by_cases c : k = b
        · by_cases d : j = b
          · omega
          · simp only [if_pos c, if_neg d] at ek
            exact absurd ek.symm (hfree j hj d sj)
        · by_cases d : j = b
          · simp only [if_neg c, if_pos d] at ek
            exact absurd ek (hfree k hk c sk)
          · simp only [if_neg c, if_neg d] at ek
            exact hr.2 k j hk hj sk sj ek
    have ho := hopt _ hrow
    rw [tot_rmv (r' := r) hb hs (fun i hi => by simp only [if_neg hi]), tot_rmv (r := r) (r' := r) hb hs (fun _ _ => rfl), hy, y3] at ho
    simp only [if_true, oR_at y1 ti.2.1, Option.getD_some] at ho
    have hu := PRM_le (m := m') (b := b)
    generalize PR (RM m') (7 - b) = u at ho hu
    rcases gi with gi | ⟨g1, g2⟩
    · have a1 : (w b (r b) + 1) * MM ≤ w b q' * MM := Nat.mul_le_mul_right MM gi
      have a2 : (144 - r b) * u ≤ 144 * 1347646586640625 := Nat.mul_le_mul (by omega) hu.1
      rw [Nat.add_mul] at a1
      have a3 : 144 * 1347646586640625 < 1 * MM := by decide
      omega
    · rw [g1] at ho
      have a1 : (144 - r b + 1) * u ≤ (144 - q') * u := Nat.mul_le_mul_right u (by omega)
      rw [Nat.add_mul] at a1
      omega
theorem rowR {m m' : Nat} {sh : Nat → Bool} {w : Nat → Nat → Nat} {S : Nat} {r : Nat → Nat} (hS : sbs S m') (h : Row (oC m sh w) 144 S r) : Row (oR m' sh w) 144 S r := by
  refine ⟨fun b hb hs => ?_, h.2⟩
  obtain ⟨-, y, hy⟩ := h.1 b hb hs
  obtain ⟨g1, g2, g3, -⟩ := oC_some hy
  exact ⟨g3, _, oR_at (hS b hs) g2⟩
theorem dR_lt {m' S : Nat} {r : Nat → Nat} (hS : sbs S m') (i : Nat) : dR S r i < RM m' i := by
  unfold dR RM
  cases c : S.testBit i with
  | true => rw [if_pos rfl, if_pos (hS i c)]; omega
  | false => rw [if_neg (by decide)]; split <;> omega
theorem dK_lt {m : Nat} {sh : Nat → Bool} {w : Nat → Nat → Nat} {S : Nat} {r : Nat → Nat} (i : Nat) : dK m sh w S r i < 16 := by
  unfold dK; split <;> omega
theorem HRR_lt {m' S : Nat} {r : Nat → Nat} (hS : sbs S m') : HR (RM m') (dR S r) 8 < MM := by
  have := HR_lt (R := RM m') (d := dR S r) (B := 145) (fun i _ => (RM_le m' i).1) (fun i _ => dR_lt hS i) 8 (Nat.le_refl 8)
  rw [show (145 : Nat) ^ 8 = MM by decide] at this
  omega
theorem HRK_lt {m : Nat} {sh : Nat → Bool} {w : Nat → Nat → Nat} {S : Nat} {r : Nat → Nat} : HR (fun _ => 16) (dK m sh w S r) 8 < 4294967296 := by
  have := HR_lt (R := fun _ => 16) (d := dK m sh w S r) (B := 16) (fun i _ => Nat.le_refl 16) (fun i _ => dK_lt i) 8 (Nat.le_refl 8)
  rw [show (16 : Nat) ^ 8 = 4294967296 by decide] at this
  omega
theorem sale_best {m m' : Nat} {sh : Nat → Bool} {w : Nat → Nat → Nat} {S : Nat} {r : Nat → Nat} (hm : sbs m' m) (hS : S < 256) (hSm : sbs S m') (hr : Row (oR m' sh w) 144 S r) (hopt : ∀ S' r', S' < 256 → sbs S' m' → Row (oR m' sh w) 144 S' r' → tot (oR m' sh w) S' r' ≤ tot (oR m' sh w) S r) : Row (oC m sh w) 144 S r ∧ ∀ S' r', S' < 256 → sbs S' m' → Row (oC m sh w) 144 S' r' → tot (oC m sh w) S' r' ≤ tot (oC m sh w) S r := by
  have hc := sale_top hm hr (fun r' h => hopt S r' hS hSm h)
  refine ⟨hc, fun S' r' h1 h2 h3 => ?_⟩
  have hr' := rowR h2 h3
  have ho := hopt S' r' h1 h2 hr'
  rw [tot_oR hr, tot_oR hr'] at ho
  rw [tot_oC hc, tot_oC h3]
  have hb : ∀ {S1 : Nat} {r1 : Nat → Nat} {i : Nat}, i < 8 → Row (oC m sh w) 144 S1 r1 → S1.testBit i = true → ∃ a, a < (tl m sh w i).2.2 ∧ a < 8 ∧ (tl m sh w i).1 a = r1 i ∧ cur (tl m sh w i) (r1 i) = a ∧ r1 i < 144 := fun hi hrow hs => by
    obtain ⟨-, y, hy⟩ := hrow.1 _ hi hs
    obtain ⟨-, -, g3, a, g4, g5, g6, g7, -⟩ := oC_some hy
    exact ⟨a, g4, g5, g6, g7, g3⟩
  have hcmp := HR_cmp (R := RM m') (R' := fun _ => 16) (d := dR S r) (d' := dR S' r') (e := dK m sh w S r) (e' := dK m sh w S' r') 8 (fun i hi => by
    refine ⟨dR_lt hSm i, dR_lt h2 i, dK_lt i, dK_lt i, ?_⟩
    have h3' := (tl_ok (m := m) (sh := sh) (w := w) (b := i)).2
    unfold dR dK
    cases c : S.testBit i with
    | false =>
      cases d : S'.testBit i with
      | false => simp
      | true =>
        obtain ⟨a, a1, a2, a3, a4, a5⟩ := hb hi h3 d
        simp only [if_true, if_neg (show ¬ (false = true) by decide), a4]
        omega
    | true =>
      obtain ⟨a, a1, a2, a3, a4, a5⟩ := hb hi hc c
      cases d : S'.testBit i with
      | false =>
        simp only [if_true, if_neg (show ¬ (false = true) by decide), a4]
        omega
      | true =>
        obtain ⟨a', b1, b2, b3, b4, b5⟩ := hb hi h3 d
        simp only [if_true, a4, b4]
        rcases Nat.lt_trichotomy a a' with e | e | e
        · have := h3' a a' e b1; omega
        · subst e; omega
        · have := h3' a' a e a1; omega)
  have c1 := hcmp1 (a := vl w S r) (b := vl w S' r') (HRR_lt (r := r) hSm) (HRR_lt (r := r') h2)
  have c2 := hcmp1 (a := vl w S r) (b := vl w S' r') (HRK_lt (m := m) (sh := sh) (w := w) (S := S) (r := r)) (HRK_lt (m := m) (sh := sh) (w := w) (S := S') (r := r'))
  rw [← hcmp.1, ← c1] at c2
  omega
