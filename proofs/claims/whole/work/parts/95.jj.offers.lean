-- part jj: the class lays its table of offers
theorem lgc (x y : Int64) : (lg_cmp x y < 0) ↔ x < y := by
  rw [← Int32.not_le, lg_cmp_ge, Int64.not_le]
def oL : Option Nat → Int64
  | none => -1
  | some v => lN v
theorem m1_lt {n : Nat} (h : n < 2 ^ 63) : (-1 : Int64) < lN n := by
  rw [Int64.lt_iff_toInt_lt, pk_lT h, show (-1 : Int64).toInt = -1 by decide]; omega
theorem oL_neg {v : Option Nat} (h : ∀ x, v = some x → x < 2 ^ 63) : (lg_cmp (oL v) 0 < 0) ↔ v = none := by
  rw [lgc]
  cases v with
  | none => exact ⟨fun _ => rfl, fun _ => by decide⟩
  | some x =>
    refine ⟨fun z => ?_, fun z => by cases z⟩
    have : lN x < lN 0 := z
    rw [pk_lLT (h x rfl) (by decide)] at this
    omega
theorem jm_maxL {v : Option Nat} {y : Nat} (h : ∀ x, v = some x → x < 2 ^ 63) (hy : y < 2 ^ 63) : f_JM_max_f86c9 (oL v) (lN y) = some (oL (omx v (some y))) := by
  unfold f_JM_max_f86c9
  cases v with
  | none =>
    show (if lg_cmp (-1) (lN y) < 0 then some (lN y) else some (-1)) = _
    rw [if_pos ((lgc _ _).mpr (m1_lt hy))]; rfl
  | some x =>
    have hx := h x rfl
    show (if lg_cmp (lN x) (lN y) < 0 then some (lN y) else some (lN x)) = _
    by_cases c : x < y
    · rw [if_pos ((lgc _ _).mpr ((pk_lLT hx hy).mpr c))]
      show some (lN y) = some (lN (max x y))
      rw [Nat.max_eq_right (by omega)]
    · rw [if_neg (fun z => c ((pk_lLT hx hy).mp ((lgc _ _).mp z)))]
      show some (lN x) = some (lN (max x y))
      rw [Nat.max_eq_left (by omega)]
theorem jm_maxL2 {y : Nat} {v : Option Nat} (h : ∀ x, v = some x → x < 2 ^ 63) (hy : y < 2 ^ 63) : f_JM_max_f86c9 (lN y) (oL v) = some (lN (max y (v.getD 0))) := by
  unfold f_JM_max_f86c9
  cases v with
  | none =>
    rw [if_neg (fun z => ?_)]
    · show some (lN y) = some (lN (max y 0)); rw [Nat.max_eq_left (by omega)]
    · have a1 := (lgc _ _).mp z
      have a2 := m1_lt hy
      rw [Int64.lt_iff_toInt_lt] at a1 a2
      change (lN y).toInt < (-1 : Int64).toInt at a1
      omega
  | some x =>
    have hx := h x rfl
    show (if lg_cmp (lN y) (lN x) < 0 then some (lN x) else some (lN y)) = _
    by_cases c : y < x
    · rw [if_pos ((lgc _ _).mpr ((pk_lLT hy hx).mpr c))]
      show some (lN x) = some (lN (max y x))
      rw [Nat.max_eq_right (by omega)]
    · rw [if_neg (fun z => c ((pk_lLT hy hx).mp ((lgc _ _).mp z)))]
      show some (lN y) = some (lN (max y x))
      rw [Nat.max_eq_left (by omega)]
theorem rmv_and {S b : Nat} (hS : S < 256) (hb : b < 8) (h : S.testBit b = true) : nI S &&& (((1 : Int32) <<< (nI b &&& 31)) ^^^ (-1)) = nI (rmv S b) := by
  obtain ⟨w', h1, h2, h3⟩ := andn (w := S) (c := b) (by omega) (by omega)
  rw [h2]
  congr 1
  refine Nat.eq_of_testBit_eq fun j => ?_
  rw [h3, rmv_bit]
  by_cases c : b = j
  · subst c; rw [h]; simp
  · rw [decide_eq_true (show j ≠ b from fun z => c z.symm), decide_eq_false c]; cases S.testBit j <;> rfl
theorem bit_if {S b : Nat} (hS : S < 256) (hb : b < 8) : ((nI S >>> (nI b &&& 31)) &&& 1 = 1) ↔ S.testBit b = true := by
  have := stands_bit (s := S) (by omega) (c := b) (by omega)
  rw [← this]
  unfold stands
  simp
theorem DB_lt {o : Nat → Nat → Option Nat} {T : Nat → Option Nat} {p S n B : Nat} (hT : ∀ S x, T S = some x → x < B) (ho : ∀ b y, o b p = some y → y < B) : ∀ v, DB o T p S n = some v → v < B + B := fun v h => by
  rcases DB_some n h with q | ⟨b, x, y, q1, q2, q3, q4, q5⟩
  · have := hT _ _ q; omega
  · have := hT _ _ q3; have := ho _ _ q4; omega
theorem ma_takeFor {N : Nat} {σ : Mem} {o : Nat → Nat → Option Nat} {T : Nat → Option Nat} {p m S : Nat} (hN : 100 < N) (hS : S < 256) (hSm : sbs S m) (hT : ∀ S x, T S = some x → x < 2 ^ 61) (ho : ∀ b y, o b p = some y → y < 2 ^ 61) (h53 : ∀ b, b < 8 → mL σ 53 b = oL (o b p)) (h54 : ∀ S', S' < 256 → sbs S' m → S' ≤ S → mL σ 54 S' = oL (T S')) : ∃ σ', f_Ma_takeOffersFor N σ (nI S) = some σ' ∧ mL σ' 54 S = oL (DB o T p S 8) ∧ ∀ j, j ≠ S → mL σ' 54 j = mL σ 54 j := by
  have hlt : ∀ n v, DB o T p S n = some v → v < 2 ^ 63 := fun n v h => by have := DB_lt hT ho v h; omega
  refine loopR (L := fun z (x : Int32 × Mem) => L_Ma_takeOffersFor_l2 N (nI S) z x.1 x.2) (P := fun i x => x.1 = nI i ∧ Fr [54] [] σ x.2 ∧ mL x.2 54 S = oL (DB o T p S i) ∧ ∀ j, j ≠ S → mL x.2 54 j = mL σ 54 j) (a := (0, σ)) 8 ?_ ?_ (by omega) ⟨rfl, Fr.rf _ _ _, h54 S hS hSm (Nat.le_refl S), fun _ _ => rfl⟩
  · rintro z i ⟨x, s⟩ hi ⟨h1, h2, h3, h4⟩
    change x = _ at h1
    subst h1
    right
    have e53 : mL s 53 i = oL (o i p) := (h2.L 53 i (by decide) (by simp)).trans (h53 i hi)
    have stp : ∀ (s' : Mem) (k : Option Nat), (B_Ma_takeOffersFor_l2 N (nI S) (L_Ma_takeOffersFor_l2 N (nI S) z) (nI i) s = L_Ma_takeOffersFor_l2 N (nI S) z (nI (i + 1)) s') → Fr [54] [] σ s' → mL s' 54 S = oL k → k = DB o T p S (i + 1) → (∀ j, j ≠ S → mL s' 54 j = mL σ 54 j) → ∃ a' : Int32 × Mem, L_Ma_takeOffersFor_l2 N (nI S) (z + 1) (nI i) s = L_Ma_takeOffersFor_l2 N (nI S) z a'.1 a'.2 ∧ (a'.1 = nI (i + 1) ∧ Fr [54] [] σ a'.2 ∧ mL a'.2 54 S = oL (DB o T p S (i + 1)) ∧ ∀ j, j ≠ S → mL a'.2 54 j = mL σ 54 j) := fun s' k g1 g2 g3 g4 g5 => ⟨(nI (i + 1), s'), g1, rfl, g2, by rw [← g4]; exact g3, g5⟩
    unfold B_Ma_takeOffersFor_l2 at stp
    rw [if_neg (show ¬ ((8 : Int32) ≤ nI i) from nI_ge (b := 8) hi (by decide))] at stp
    have gi := inb_j hi (show 8 < 2 ^ 31 by decide)
    simp only [letv, nI_1] at stp
    by_cases c : S.testBit i = true
    · have hDB : DB o T p S (i + 1) = omx (DB o T p S i) (oad (T (rmv S i)) (o i p)) := by
        show omx (DB o T p S i) (if S.testBit i = true then _ else _) = _
        rw [if_pos c]
      rw [if_pos ((bit_if hS hi).mpr c), grd_t gi, nI_clamp (by omega), e53] at stp
      cases eo : o i p with
      | none =>
        rw [eo, if_pos ((oL_neg (v := none) (fun x hx => by cases hx)).mpr rfl)] at stp
        refine stp s (DB o T p S i) rfl h2 h3 ?_ h4
        rw [hDB, eo]
        cases T (rmv S i) <;> cases DB o T p S i <;> rfl
      | some y =>
        have hy := ho i y eo
        have hr := rmv_lt c
        rw [eo, if_neg (fun z => absurd ((oL_neg (v := some y) (fun x hx => by cases hx; omega)).mp z) (by simp)), rmv_and hS hi c, grd_t (inb_j (show rmv S i < 256 by omega) (by decide)), nI_clamp (by omega), h4 (rmv S i) (by omega), h54 (rmv S i) (by omega) (fun j hj => hSm j ((rmv_sub c).mp hj).1) (by omega)] at stp
        cases eT : T (rmv S i) with
        | none =>
          rw [eT, if_pos ((oL_neg (v := none) (fun x hx => by cases hx)).mpr rfl)] at stp
          refine stp s (DB o T p S i) rfl h2 h3 ?_ h4
          rw [hDB, eo, eT]
          cases DB o T p S i <;> rfl
        | some x =>
          have hx := hT _ x eT
          rw [eT, if_neg (fun z => absurd ((oL_neg (v := some x) (fun x hx => by cases hx; omega)).mp z) (by simp)), grd_t (inb_j (show S < 256 by omega) (by decide)), grd_t gi, nI_clamp (by omega), h3, show oL (some x) + oL (some y) = lN (x + y) from lN_add x y, jm_maxL (hlt i) (by omega)] at stp
          simp only [bnd1_s] at stp
          rw [grd_t (inb_j (show S < 256 by omega) (by decide))] at stp
          refine stp (sL s 54 S (oL (omx (DB o T p S i) (some (x + y))))) (omx (DB o T p S i) (some (x + y))) rfl (h2.aL rfl (by decide)) ?_ ?_ ?_
          · rw [rdL, if_pos ⟨rfl, rfl⟩]
          · rw [hDB, eo, eT]; rfl
          · intro j hj
            rw [rdL, if_neg (fun z => hj z.2)]
            exact h4 j hj
    · rw [if_neg (fun z => c ((bit_if hS hi).mp z))] at stp
      refine stp s (DB o T p S i) rfl h2 h3 ?_ h4
      show _ = omx (DB o T p S i) (if S.testBit i = true then _ else _)
      rw [if_neg c]
      cases DB o T p S i <;> rfl
  · rintro z ⟨x, s⟩ ⟨h1, h2, h3, h4⟩
    change x = _ at h1
    subst h1
    refine ⟨s, ?_, h3, h4⟩
    show B_Ma_takeOffersFor_l2 N (nI S) _ (nI 8) s = _
    unfold B_Ma_takeOffersFor_l2
    rw [if_pos (by decide)]
theorem DB_zero {o : Nat → Nat → Option Nat} {T : Nat → Option Nat} {p : Nat} : ∀ n, DB o T p 0 n = T 0 := by
  intro n
  induction n with
  | zero => rfl
  | succ n ih =>
    show omx (DB o T p 0 n) (if Nat.testBit 0 n = true then _ else _) = _
    rw [ih, Nat.zero_testBit, if_neg (by decide)]
    cases T 0 <;> rfl
theorem ma_take {N : Nat} {σ : Mem} {o : Nat → Nat → Option Nat} {T : Nat → Option Nat} {p m : Nat} (hN : 1000 < N) (hm : m < 256) (e9 : mI σ 47 9 = nI m) (hT : ∀ S x, T S = some x → x < 2 ^ 61) (ho : ∀ b y, o b p = some y → y < 2 ^ 61) (h53 : ∀ b, b < 8 → mL σ 53 b = oL (o b p)) (h54 : ∀ S', S' < 256 → sbs S' m → mL σ 54 S' = oL (T S')) : ∃ σ', f_Ma_takeOffers N σ = some σ' ∧ ∀ S', S' < 256 → sbs S' m → mL σ' 54 S' = oL (DB o T p S' 8) := by
  refine loopR (L := fun z (x : Int32 × Mem) => L_Ma_takeOffers_l4 N z x.1 x.2) (P := fun i x => x.1 = nI (255 - i) ∧ Fr [54] [] σ x.2 ∧ ∀ S', S' < 256 → sbs S' m → mL x.2 54 S' = oL (if 255 - i < S' then DB o T p S' 8 else T S')) (a := (255, σ)) 255 ?_ ?_ (by omega) ⟨rfl, Fr.rf _ _ _, fun S' h1 h2 => by rw [if_neg (by omega)]; exact h54 S' h1 h2⟩
  · rintro z i ⟨x, s⟩ hi ⟨h1, h2, h3⟩
    change x = _ at h1
    subst h1
    right
    have ed : nI (255 - i) + (-1) = nI (255 - (i + 1)) := by
      rw [← Int32.sub_eq_add_neg]
      exact (pk_sub (a := 255 - i) (b := 1) (by omega)).trans (by congr 1)
    have e9' : mI s 47 9 = nI m := (h2.I 47 9 (by decide) (by simp)).trans e9
    by_cases c : sbs (255 - i) m
    · obtain ⟨s', s1, s2, s3⟩ := ma_takeFor (N := N) (σ := s) (o := o) (T := T) (p := p) (m := m) (S := 255 - i) (by omega) (by omega) c hT ho (fun b hb => (h2.L 53 b (by decide) (by simp)).trans (h53 b hb)) (fun S' g1 g2 g3 => by rw [h3 S' g1 g2, if_neg (by omega)])
      have F := fm_Ma_takeOffersFor s1
      refine ⟨(nI (255 - (i + 1)), s'), ?_, rfl, h2.t F, fun S' g1 g2 => ?_⟩
      · show B_Ma_takeOffers_l4 N (L_Ma_takeOffers_l4 N z) (nI (255 - i)) s = _
        unfold B_Ma_takeOffers_l4
        rw [if_neg (show ¬ nI (255 - i) ≤ 0 from nI_ge (a := 0) (by omega) (by omega)), e9', if_pos ((andn0 (by omega)).mpr c), s1, ed]
        rfl
      · show mL s' 54 S' = _
        by_cases d : S' = 255 - i
        · rw [d, s2, if_pos (by omega)]
        · rw [s3 S' d, h3 S' g1 g2]
          by_cases q : 255 - i < S'
          · rw [if_pos q, if_pos (by omega)]
          · rw [if_neg q, if_neg (by omega)]
    · refine ⟨(nI (255 - (i + 1)), s), ?_, rfl, h2, fun S' g1 g2 => ?_⟩
      · show B_Ma_takeOffers_l4 N (L_Ma_takeOffers_l4 N z) (nI (255 - i)) s = _
        unfold B_Ma_takeOffers_l4
        rw [if_neg (show ¬ nI (255 - i) ≤ 0 from nI_ge (a := 0) (by omega) (by omega)), e9', if_neg (fun z => c ((andn0 (by omega)).mp z)), ed]
        rfl
      · show mL s 54 S' = _
        have d : S' ≠ 255 - i := fun z => c (by rw [← z]; exact g2)
        rw [h3 S' g1 g2]
        by_cases q : 255 - i < S'
        · rw [if_pos q, if_pos (by omega)]
        · rw [if_neg q, if_neg (by omega)]
  · rintro z ⟨x, s⟩ ⟨h1, h2, h3⟩
    change x = _ at h1
    subst h1
    refine ⟨s, ?_, fun S' g1 g2 => ?_⟩
    · show B_Ma_takeOffers_l4 N _ (nI (255 - 255)) s = _
      unfold B_Ma_takeOffers_l4
      rw [if_pos (by decide)]
    · have := h3 S' g1 g2
      rw [this]
      by_cases q : 255 - 255 < S'
      · rw [if_pos q]
      · rw [if_neg q, show S' = 0 by omega, DB_zero]
