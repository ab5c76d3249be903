-- ===== bits, one by one =====
theorem pcR_cnt (s : Nat) : ∀ i, pcR s i = cntB (fun j => s.testBit j) i := by
  intro i
  induction i with
  | zero => rfl
  | succ i ih =>
    rw [cntB_succ, ← ih, Nat.testBit_eq_decide_div_mod_eq]
    show pcR s i + s / 2 ^ i % 2 = _
    rcases (show s / 2 ^ i % 2 = 0 ∨ s / 2 ^ i % 2 = 1 by omega) with e | e <;> rw [e] <;> simp
theorem stands_bit {s : Nat} (hs : s < 2 ^ 31) {c : Nat} (hc : c < 32) : stands (nI s) c = s.testBit c := by
  unfold stands
  rw [bit_at hs hc, Nat.testBit_eq_decide_div_mod_eq]
  have h : s / 2 ^ c % 2 < 2 := Nat.mod_lt _ (by decide)
  have e : (nI (s / 2 ^ c % 2) = 1) ↔ s / 2 ^ c % 2 = 1 := nI_eq (b := 1) (by omega) (by decide)
  simp only [e]
theorem rch_bits (s : Int32) (k p z d : Nat → Int32) (e n : Int32) (sq : Nat) : ∀ m, m ≤ 16 → ∃ w : Nat, w < 2 ^ m ∧ rch s k p z d e n sq m = nI w ∧ ∀ c, w.testBit c = (decide (c < m) && (stands s c && hit (hitL (k c) (p c) (z c) (d c) e n) sq)) := by
  intro m
  induction m with
  | zero => intro _; exact ⟨0, by decide, rfl, fun c => by simp⟩
  | succ m ih =>
    intro hm
    obtain ⟨w, hw, ew, hb⟩ := ih (by omega)
    unfold rch
    rw [ew]
    have hw2 : w < 2 ^ (m + 1) := Nat.lt_of_lt_of_le hw (Nat.pow_le_pow_right (by decide) (by omega))
    by_cases c : (stands s m && hit (hitL (k m) (p m) (z m) (d m) e n) sq) = true
    · rw [if_pos c, one_shl m (by omega), fa_or]
      refine ⟨w ||| 2 ^ m, Nat.or_lt_two_pow hw2 (Nat.pow_lt_pow_right (by decide) (by omega)), rfl, fun j => ?_⟩
      rw [Nat.testBit_or, hb j, Nat.testBit_two_pow]
      by_cases ej : m = j
      · subst ej
        simp [c]
      · by_cases q : j < m
        · simp [q, ej, show j < m + 1 by omega]
        · simp [q, ej, show ¬ j < m + 1 by omega]
    · rw [if_neg c]
      refine ⟨w, hw2, rfl, fun j => ?_⟩
      rw [hb j]
      by_cases ej : j = m
      · subst ej
        have c' : (stands s j && hit (hitL (k j) (p j) (z j) (d j) e n) sq) = false := by simpa using c
        rw [c']
        simp
      · by_cases q : j < m
        · simp [q, show j < m + 1 by omega]
        · simp [q, show ¬ j < m + 1 by omega]
theorem who_bits {N : Nat} {σ : Mem} (hI : Inv N σ) (hR : Rdy σ) {h sq : Nat} (hh : h < 24) (hs : sq < 144) : ∃ w n : Nat, n ≤ 16 ∧ mI σ 19 6 = nI n ∧ w < 2 ^ n ∧ who σ h sq = nI w ∧ ∀ c, w.testBit c = true → c < n ∧ stands (mI σ 19 7) c = true := by
  obtain ⟨n, lt, Hs, Vs, ok, hc, hm, hS, hB⟩ := hI.day hR
  obtain ⟨nt, hnt, e6, -⟩ := hI.mtown
  unfold who
  have hpos : 0 < 2 ^ nt := Nat.pow_pos (by decide)
  by_cases c : mI σ 39 sq = 0
  · rw [if_pos c, hB.2 h hh sq hs]
    by_cases u : mI σ 34 h = 0
    · rw [if_pos u]; exact ⟨0, nt, hnt, e6, hpos, rfl, fun c z => by simp at z⟩
    · rw [if_neg u, e6, nI_clamp (by omega)]
      obtain ⟨w, hw, ew, hb⟩ := rch_bits (mI σ 19 7) (mI σ 20) (mI σ 21) (mI σ 22) (mI σ 23) (mI σ 35 h) (mI σ 36 h) sq nt hnt
      refine ⟨w, nt, hnt, rfl, hw, ew, fun c z => ?_⟩
      rw [hb c] at z
      simp only [Bool.and_eq_true, decide_eq_true_eq] at z
      exact ⟨z.1, z.2.1⟩
  · rw [if_neg c]; exact ⟨0, nt, hnt, e6, hpos, rfl, fun c z => by simp at z⟩
-- ===== led =====
def sumN (f : Nat → Nat) : Nat → Nat
  | 0 => 0
  | m + 1 => sumN f m + f m
theorem sumN_succ (f : Nat → Nat) (m : Nat) : sumN f (m + 1) = sumN f m + f m := rfl
theorem sumN_congr {f g : Nat → Nat} : ∀ m, (∀ i, i < m → f i = g i) → sumN f m = sumN g m := by
  intro m
  induction m with
  | zero => intro _; rfl
  | succ m ih =>
    intro h
    rw [sumN_succ, sumN_succ, ih (fun i hi => h i (by omega)), h m (by omega)]
theorem sumN_split (f : Nat → Nat) (a : Nat) : ∀ m, sumN f (a + m) = sumN f a + sumN (fun i => f (a + i)) m := by
  intro m
  induction m with
  | zero => rfl
  | succ m ih => rw [← Nat.add_assoc, sumN_succ, ih, sumN_succ, Nat.add_assoc]
theorem sumN_flat {f : Nat → Nat} {g : Nat → Nat → Nat} {w : Nat} : ∀ n, (∀ h, h < n → ∀ s, s < w → f (w * h + s) = g h s) → sumN f (w * n) = sumN (fun h => sumN (g h) w) n := by
  intro n
  induction n with
  | zero => intro _; rfl
  | succ n ih =>
    intro h
    rw [Nat.mul_succ, sumN_split, ih (fun a ha => h a (by omega)), sumN_succ]
    congr 1
    exact sumN_congr w (fun i hi => h n (by omega) i hi)
theorem sumN_le {f : Nat → Nat} {B : Nat} : ∀ m, (∀ i, i < m → f i ≤ B) → sumN f m ≤ B * m := by
  intro m
  induction m with
  | zero => intro _; exact Nat.le_refl _
  | succ m ih =>
    intro h
    rw [sumN_succ, Nat.mul_succ]
    have h1 := ih (fun i hi => h i (by omega))
    have h2 := h m (by omega)
    omega
theorem pcR_pos {w : Nat} (h0 : w ≠ 0) (h : w < 65536) : 0 < pcR w 16 := by
  rcases Nat.eq_zero_or_pos (pcR w 16) with z | z
  · exfalso
    apply h0
    apply Nat.eq_of_testBit_eq
    intro i
    rw [Nat.zero_testBit]
    by_cases hi : i < 16
    · rw [pcR_cnt] at z
      have : ∀ m, cntB (fun j => w.testBit j) m = 0 → ∀ i, i < m → w.testBit i = false := by
        intro m
        induction m with
        | zero => intro _ i hi; omega
        | succ m ih =>
          intro hz i hi
          rw [cntB_succ] at hz
          rcases (show i < m ∨ i = m by omega) with q | rfl
          · exact ih (by omega) i q
          · cases hb : w.testBit i with
            | false => rfl
            | true => simp [hb] at hz
      exact this 16 z i hi
    · exact Nat.testBit_lt_two_pow (Nat.lt_of_lt_of_le h (Nat.pow_le_pow_right (n := 2) (by decide) (show 16 ≤ i by omega)))
  · exact z
theorem pcR_le (w : Nat) : pcR w 16 ≤ 16 := by rw [pcR_cnt]; exact cntB_le _ _
/-- the parts of a square that go to an owner -/
def ldW (σ : Mem) (o : Int32) (w : Nat) : Nat := if w = 0 then 0 else 720720 / pcR w 16 * cntB (fun c => w.testBit c && decide (mI σ 24 c = o)) 16
theorem ldW_le (σ : Mem) (o : Int32) (w : Nat) : ldW σ o w ≤ 11531520 := by
  unfold ldW
  by_cases c : w = 0
  · rw [if_pos c]; omega
  · rw [if_neg c]
    have h1 : 720720 / pcR w 16 ≤ 720720 := Nat.div_le_self _ _
    have h2 := cntB_le (fun c => w.testBit c && decide (mI σ 24 c = o)) 16
    calc _ ≤ 720720 * 16 := Nat.mul_le_mul h1 h2
      _ = 11531520 := by decide
def ldV (σ : Mem) (o : Int32) (h sq : Nat) : Nat := ldW σ o (who σ h sq).toNatClampNeg
theorem to_standingOf {N : Nat} {σ : Mem} {n : Nat} (hN : 100 < N) (hn : n ≤ 16) (e6 : mI σ 19 6 = nI n) (o : Int32) : ∃ r, f_To_standingOf N σ o = some r ∧ ∃ so : Nat, so < 2 ^ n ∧ r = nI so ∧ ∀ c, so.testBit c = (decide (c < n) && (stands (mI σ 19 7) c && decide (mI σ 24 c = o))) := by
  unfold f_To_standingOf
  refine loopR (L := fun k (a : Int32 × Int32) => L_To_standingOf_l4 N o σ k a.1 a.2) (P := fun i a => a.2 = nI i ∧ ∃ so : Nat, so < 2 ^ i ∧ a.1 = nI so ∧ ∀ c, so.testBit c = (decide (c < i) && (stands (mI σ 19 7) c && decide (mI σ 24 c = o)))) (a := (0, 0)) n ?_ ?_ (by omega) ⟨rfl, 0, by decide, rfl, fun c => by simp⟩
  · rintro k i ⟨x, y⟩ hi ⟨h1, so, h2, h3, h4⟩
    have hy : y = nI i := h1
    have hx : x = nI so := h3
    subst hy; subst hx
    right
    show ∃ a' : Int32 × Int32, B_To_standingOf_l4 N o σ (L_To_standingOf_l4 N o σ k) (nI so) (nI i) = L_To_standingOf_l4 N o σ k a'.1 a'.2 ∧ _
    unfold B_To_standingOf_l4
    rw [e6, if_neg (nI_ge hi (by omega)), grd_t (inb_j (by omega) (by decide)), nI_clamp (by omega), to_isSt hn e6 hi]
    simp only [bnd1_s, letv, nI_1]
    have hw2 : so < 2 ^ (i + 1) := Nat.lt_of_lt_of_le h2 (Nat.pow_le_pow_right (by decide) (by omega))
    have hskip : (stands (mI σ 19 7) i && decide (mI σ 24 i = o)) = false → ∀ c, so.testBit c = (decide (c < i + 1) && (stands (mI σ 19 7) c && decide (mI σ 24 c = o))) := fun hf c => by
      rw [h4 c]
      by_cases ej : c = i
      · subst ej; rw [hf]; simp
      · by_cases q : c < i
        · simp [q, show c < i + 1 by omega]
        · simp [q, show ¬ c < i + 1 by omega]
    by_cases c1 : mI σ 24 i = o
    · rw [if_pos c1]
      by_cases c2 : stands (mI σ 19 7) i = true
      · rw [if_pos c2, if_neg ne10, one_shl i (by omega), fa_or]
        refine ⟨(_, _), rfl, rfl, so ||| 2 ^ i, Nat.or_lt_two_pow hw2 (Nat.pow_lt_pow_right (by decide) (by omega)), rfl, fun j => ?_⟩
        rw [Nat.testBit_or, h4 j, Nat.testBit_two_pow]
        by_cases ej : i = j
        · subst ej
          simp [c1, c2]
        · by_cases q : j < i
          · simp [q, ej, show j < i + 1 by omega]
          · simp [q, ej, show ¬ j < i + 1 by omega]
      · rw [if_neg c2, if_pos rfl]
        exact ⟨(_, _), rfl, rfl, so, hw2, rfl, hskip (by simp [c2])⟩
    · rw [if_neg c1]
      exact ⟨(_, _), rfl, rfl, so, hw2, rfl, hskip (by simp [c1])⟩
  · rintro k ⟨x, y⟩ ⟨h1, h2⟩
    have hy : y = nI n := h1
    subst hy
    refine ⟨x, ?_, h2⟩
    show B_To_standingOf_l4 N o σ (L_To_standingOf_l4 N o σ k) x (nI n) = _
    unfold B_To_standingOf_l4
    rw [e6, if_pos (nI_le (Nat.le_refl _) (by omega))]
theorem lN_i64 {a : Nat} (h : a < 2 ^ 31) : (nI a).toInt64 = lN a := nI_l h
theorem da_partsOf {N : Nat} {σ : Mem} (hN : 1000 < N) (hI : Inv N σ) (hR : Rdy σ) {n so : Nat} {o : Int32} (hn : n ≤ 16) (e6 : mI σ 19 6 = nI n) (hso : so < 2 ^ n) (hb : ∀ c, so.testBit c = (decide (c < n) && (stands (mI σ 19 7) c && decide (mI σ 24 c = o)))) : f_Da_partsOf N σ (nI so) = some (lN (sumN (fun h => sumN (ldV σ o h) 144) 24)) := by
  have hso16 : so < 65536 := Nat.lt_of_lt_of_le hso (Nat.pow_le_pow_right (n := 2) (by decide) hn)
  have inner : ∀ (h A : Nat), h < 24 → L_Da_partsOf_l15 N (nI so) (nI h) σ N (lN A) 0 = some (lN (A + sumN (ldV σ o h) 144)) := by
    intro h A hh
    refine loopS (L := fun z (a : Int64 × Int32) => L_Da_partsOf_l15 N (nI so) (nI h) σ z a.1 a.2) (fun i => (lN (A + sumN (ldV σ o h) i), nI i)) _ 144 (fun z i hi => ?_) (fun z => ?_) (by omega)
    · show B_Da_partsOf_l15 N (nI so) (nI h) σ (L_Da_partsOf_l15 N (nI so) (nI h) σ z) (lN (A + sumN (ldV σ o h) i)) (nI i) = L_Da_partsOf_l15 N (nI so) (nI h) σ z (lN (A + sumN (ldV σ o h) (i + 1))) (nI (i + 1))
      obtain ⟨w, n', hn', e6', hw, ew, hwb⟩ := who_bits hI hR hh hi
      have hnn : n' = n := (nI_eq (by omega) (by omega)).mp (e6'.symm.trans e6)
      subst hnn
      have hw16 : w < 65536 := Nat.lt_of_lt_of_le hw (Nat.pow_le_pow_right (n := 2) (by decide) hn)
      have hws : w &&& so < 65536 := Nat.lt_of_le_of_lt Nat.and_le_left hw16
      have hcnt : pcR (w &&& so) 16 = cntB (fun c => w.testBit c && decide (mI σ 24 c = o)) 16 := by
        rw [pcR_cnt]
        refine cntB_congr 16 (fun c _ => ?_)
        show (w &&& so).testBit c = _
        rw [Nat.testBit_and, hb c]
        cases hc : w.testBit c with
        | false => rfl
        | true =>
          obtain ⟨q1, q2⟩ := hwb c hc
          simp [q1, q2]
      have hv : ldV σ o h i = ldW σ o w := by
        unfold ldV
        rw [ew, nI_clamp (by omega)]
      unfold B_Da_partsOf_l15
      rw [if_neg (show ¬ ((144 : Int32) ≤ nI i) from nI_ge (b := 144) hi (by decide)), da_whoCasts hh hi, ew, sumN_succ, hv]
      simp only [bnd1_s, letv, nI_1]
      rw [fa_and, bitCount_eq hw16, bitCount_eq hws]
      simp only [bnd1_s]
      unfold ldW
      by_cases c0 : w &&& so = 0
      · rw [c0, if_pos nI_0]
        simp only [bnd1_s]
        have hz : cntB (fun c => w.testBit c && decide (mI σ 24 c = o)) 16 = 0 := by
          rw [← hcnt, c0]; decide
        rw [hz, Nat.mul_zero]
        by_cases cw : w = 0
        · rw [if_pos cw]; rfl
        · rw [if_neg cw]; rfl
      · have cw : w ≠ 0 := fun z => c0 (by rw [z]; exact Nat.zero_and so)
        have hp := pcR_pos cw hw16
        have hle := pcR_le w
        have hle2 := pcR_le (w &&& so)
        rw [if_neg (nI_ne0 (by omega) (by omega)), lN_i64 (by omega), lN_i64 (by omega), if_neg cw, ← hcnt]
        rw [grd_t (by
          have : ¬ lN (pcR w 16) = 0 := fun z => by
            have := (pk_lEQ (b := 0) (by omega) (by decide)).mp z
            omega
          simp [this])]
        simp only [bnd1_s]
        rw [show (720720 : Int64) / lN (pcR w 16) = lN (720720 / pcR w 16) from pk_lDiv (a := 720720) (by decide) hp (by omega), lN_mul, lN_add, Nat.add_assoc]
    · show B_Da_partsOf_l15 N (nI so) (nI h) σ (L_Da_partsOf_l15 N (nI so) (nI h) σ z) _ (nI 144) = _
      unfold B_Da_partsOf_l15
      rw [if_pos (by decide)]
  unfold f_Da_partsOf
  refine loopS (L := fun z (a : Int64 × Int32) => L_Da_partsOf_l5 N (nI so) σ z a.1 a.2) (fun i => (lN (sumN (fun h => sumN (ldV σ o h) 144) i), nI i)) _ 24 (fun z i hi => ?_) (fun z => ?_) (by omega)
  · show B_Da_partsOf_l5 N (nI so) σ (L_Da_partsOf_l5 N (nI so) σ z) (lN (sumN (fun h => sumN (ldV σ o h) 144) i)) (nI i) = L_Da_partsOf_l5 N (nI so) σ z (lN (sumN (fun h => sumN (ldV σ o h) 144) (i + 1))) (nI (i + 1))
    unfold B_Da_partsOf_l5
    rw [if_neg (show ¬ ((24 : Int32) ≤ nI i) from nI_ge (b := 24) hi (by decide)), inner i _ hi]
    simp only [bnd1_s, letv, nI_1]
    rfl
  · show B_Da_partsOf_l5 N (nI so) σ (L_Da_partsOf_l5 N (nI so) σ z) _ (nI 24) = _
    unfold B_Da_partsOf_l5
    rw [if_pos (by decide)]
theorem mo_ofOwner {N : Nat} {σ : Mem} {n w : Nat} (hN : 100 < N) (hn : n ≤ 16) (e0 : mI σ 65 0 = nI n) (hw : w < 2 ^ n) (o : Int32) : f_Mo_ofOwner N σ (nI w) o = some (nI (cntB (fun c => w.testBit c && decide (mI σ 70 c = o)) n)) := by
  have hw16 : w < 65536 := Nat.lt_of_lt_of_le hw (Nat.pow_le_pow_right (n := 2) (by decide) hn)
  unfold f_Mo_ofOwner
  refine loopS (L := fun z (a : Int32 × Int32) => L_Mo_ofOwner_l5 N (nI w) o σ z a.1 a.2) (fun i => (nI (cntB (fun c => w.testBit c && decide (mI σ 70 c = o)) i), nI i)) _ n (fun z i hi => ?_) (fun z => ?_) (by omega)
  · show B_Mo_ofOwner_l5 N (nI w) o σ (L_Mo_ofOwner_l5 N (nI w) o σ z) (nI (cntB _ i)) (nI i) = L_Mo_ofOwner_l5 N (nI w) o σ z (nI (cntB _ (i + 1))) (nI (i + 1))
    unfold B_Mo_ofOwner_l5
    rw [e0, if_neg (nI_ge hi (by omega)), mo_has, stands_bit (by omega) (by omega), grd_t (inb_j (by omega) (by decide)), nI_clamp (by omega), cntB_succ]
    simp only [bnd1_s, letv, nI_1]
    cases hb : w.testBit i with
    | false =>
      simp only [if_neg f10, if_true, bnd1_s, Bool.false_and]
      show L_Mo_ofOwner_l5 N (nI w) o σ z (nI _ + nI 0) _ = _
      rw [nI_add]
    | true =>
      simp only [if_true, if_neg ne10, Bool.true_and]
      by_cases c : mI σ 70 i = o
      · rw [if_pos c]
        simp only [bnd1_s, if_neg (show ¬ (1 = 0) by decide), c, decide_true, if_true, nI_1]
      · rw [if_neg c]
        simp only [bnd1_s, if_true, c, decide_false, if_neg f10]
        show L_Mo_ofOwner_l5 N (nI w) o σ z (nI _ + nI 0) _ = _
        rw [nI_add]
  · show B_Mo_ofOwner_l5 N (nI w) o σ (L_Mo_ofOwner_l5 N (nI w) o σ z) _ (nI n) = _
    unfold B_Mo_ofOwner_l5
    rw [e0, if_pos (nI_le (Nat.le_refl _) (by omega))]
theorem mo_ledL {N : Nat} {σ : Mem} (hN : 5000 < N) (hI : Inv N σ) (hR : Rdy σ) (hD : DayEq σ) (o a2 : Int32) : L_Mo_led_l31 N o a2 σ N 0 0 = some (lN (sumN (fun h => sumN (ldV σ o h) 144) 24)) := by
  obtain ⟨nt, hnt, e6, e0, e1, e2, e3, ec, hz, hT⟩ := hI.mtown
  rw [← sumN_flat (f := fun k => ldV σ o (k / 144) (k % 144)) 24 (fun h hh s hs => by
    rw [show (144 * h + s) / 144 = h by omega, show (144 * h + s) % 144 = s by omega])]
  refine loopS (L := fun z (a : Int64 × Int32) => L_Mo_led_l31 N o a2 σ z a.1 a.2) (fun i => (lN (sumN (fun k => ldV σ o (k / 144) (k % 144)) i), nI i)) _ 3456 (fun z i hi => ?_) (fun z => ?_) (by omega)
  · show B_Mo_led_l31 N o a2 σ (L_Mo_led_l31 N o a2 σ z) (lN (sumN _ i)) (nI i) = L_Mo_led_l31 N o a2 σ z (lN (sumN _ (i + 1))) (nI (i + 1))
    have hh : i / 144 < 24 := by omega
    have hs : i % 144 < 144 := by omega
    obtain ⟨w, n', hn', e6', hw, ew, hwb⟩ := who_bits hI hR hh hs
    have hnn : n' = nt := (nI_eq (by omega) (by omega)).mp (e6'.symm.trans e6)
    subst hnn
    have hw16 : w < 65536 := Nat.lt_of_lt_of_le hw (Nat.pow_le_pow_right (n := 2) (by decide) hnt)
    have e86 : mI σ 86 i = nI w := by
      have := hD.2.2 _ hh _ hs
      rw [show 144 * (i / 144) + i % 144 = i by omega, ew] at this
      exact this
    have hv : ldV σ o (i / 144) (i % 144) = ldW σ o w := by
      unfold ldV
      rw [ew, nI_clamp (by omega)]
    have hcn : cntB (fun c => w.testBit c && decide (mI σ 70 c = o)) n' = cntB (fun c => w.testBit c && decide (mI σ 24 c = o)) 16 := by
      have h1 : cntB (fun c => w.testBit c && decide (mI σ 70 c = o)) n' = cntB (fun c => w.testBit c && decide (mI σ 24 c = o)) n' := cntB_congr n' (fun c hc => by
        show (w.testBit c && decide (mI σ 70 c = o)) = (w.testBit c && decide (mI σ 24 c = o))
        rw [(ec c (by omega)).2.2.2.2])
      rw [h1]
      have := cntB_ext (f := fun c => w.testBit c && decide (mI σ 24 c = o)) (m := n') (16 - n') (fun c h1 h2 => by
        have : w.testBit c = false := by
          cases hb : w.testBit c with
          | false => rfl
          | true => have := (hwb c hb).1; omega
        show (w.testBit c && _) = false
        rw [this]; rfl)
      rw [show n' + (16 - n') = 16 by omega] at this
      exact this.symm
    unfold B_Mo_led_l31
    rw [if_neg (show ¬ ((3456 : Int32) ≤ nI i) from nI_ge (b := 3456) hi (by decide)), grd_t (inb_j hi (by decide)), nI_clamp (by omega), e86, sumN_succ, hv]
    simp only [letv, nI_1]
    unfold ldW
    by_cases cw : w = 0
    · subst cw
      rw [if_pos nI_0, if_pos rfl]
      rfl
    · have hp := pcR_pos cw hw16
      have hle := pcR_le w
      have hc16 := cntB_le (fun c => w.testBit c && decide (mI σ 24 c = o)) 16
      rw [if_neg (nI_ne0 (by omega) (by omega)), if_neg cw, grd_t (inb_j hi (by decide)), mo_ofOwner (by omega) hnt e0 hw, hcn, mo_bits (by omega) hw16]
      simp only [bnd1_s, grd_t (inb_j hi (show 3456 < 2 ^ 31 by decide))]
      rw [grd_t (by
        have := nI_ne0 hp (show pcR w 16 < 2 ^ 31 by omega)
        simp [this])]
      simp only [bnd1_s]
      have hq : 720720 / pcR w 16 ≤ 720720 := Nat.div_le_self _ _
      rw [show (720720 : Int32) / nI (pcR w 16) = nI (720720 / pcR w 16) from pk_div (a := 720720) (by decide) hp (by omega), lN_i64 (by omega), lN_i64 (by omega), lN_mul, lN_add, Nat.mul_comm]
  · show B_Mo_led_l31 N o a2 σ (L_Mo_led_l31 N o a2 σ z) _ (nI 3456) = _
    unfold B_Mo_led_l31
    rw [if_pos (by decide)]
theorem st_led {N : Nat} (hN : 70000 ≤ N) : St_led N := by
  intro σ a1 a2 hI
  unfold f_Sh_led f_Mo_led
  rw [sh_isOwner]
  rcases in_cases a1 5 (by decide) with h | ⟨h, o, ho, rfl⟩
  · have h : f_Mo_in a1 0 5 = some 0 := h
    exact ⟨-1, σ, σ, by rw [h]; rfl, by rw [h]; rfl, hI⟩
  have h : f_Mo_in (nI o) 0 5 = some 1 := h
  rw [h]
  simp only [bnd1_s, if_neg ne10]
  rcases in_casesB a2 1 (by decide) with ⟨g, g'⟩ | ⟨g, g1, g2, w, hw, rfl⟩
  · have g : f_Mo_in a2 0 1 = some 0 := g
    refine ⟨-1, σ, σ, ?_, by rw [g]; rfl, hI⟩
    rcases g' with g' | ⟨g', g2⟩
    · rw [if_pos g']
    · rw [if_neg g', if_neg (show ¬ a2 ≤ 1 from g2)]
  have g : f_Mo_in (nI w) 0 1 = some 1 := g
  obtain ⟨σ1, t1, I1, R1⟩ := today_ok hN hI
  obtain ⟨σ2, p2, D2, I2, R2, F2⟩ := mo_laysDay hN I1 R1
  obtain ⟨nt, hnt, e6, -⟩ := I1.mtown
  obtain ⟨r, q1, so, hso, rfl, hb⟩ := to_standingOf (N := N) (by omega) hnt e6 (nI o)
  have hp := da_partsOf (N := N) (by omega) I1 R1 hnt e6 hso hb
  have hm := mo_ledL (N := N) (by omega) I2 R2 D2 (nI o) (nI w)
  have eV : ∀ h, ldV σ2 (nI o) h = ldV σ1 (nI o) h := fun h => funext fun sq => by
    unfold ldV ldW
    rw [who_k (F2.rowI 38 (by decide) (by simp)) (F2.rowI 39 (by decide) (by simp)), F2.rowI 24 (by decide) (by simp)]
  simp only [eV] at hm
  have hT : sumN (fun h => sumN (ldV σ1 (nI o) h) 144) 24 ≤ 11531520 * 144 * 24 := sumN_le 24 (fun h _ => sumN_le 144 (fun sq _ => ldW_le _ _ _))
  generalize sumN (fun h => sumN (ldV σ1 (nI o) h) 144) 24 = T at hp hm hT
  obtain ⟨l1, l2, l3⟩ := lowest_eq (N := N) (a := T) (b := 720720) (by omega) (by omega) (by decide) (by decide) (nI w)
  rw [if_neg g1, if_pos (show nI w ≤ 1 from g2), t1, g]
  simp only [bnd1_s, if_neg ne10]
  refine ⟨(if nI w = 0 then lN T / lN (Nat.gcd T 720720) else lN 720720 / lN (Nat.gcd T 720720)), σ1, σ2, ?_, ?_, I2⟩
  rotate_left
  · rw [p2]
    simp only [bnd1_s]
    rw [hm]
    simp only [bnd1_s]
    rw [show f_Mo_gcd N (lN T) 720720 = _ from l2]
    simp only [bnd1_s]
    rw [grd_t (by simp [l3]), grd_t (by simp [l3])]
    by_cases c : nI w = 0
    · rw [if_pos c, if_pos c]
    · rw [if_neg c, if_neg c]
      rfl
  · rw [q1]
    simp only [bnd1_s]
    rw [hp]
    simp only [bnd1_s]
    rw [show f_Sh_lowest N (lN T) 720720 (nI w) = _ from l1]
    simp only [bnd1_s]
