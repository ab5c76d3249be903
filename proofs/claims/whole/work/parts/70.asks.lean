-- ===== what the law says, by both sides =====
theorem pick_at {n : Nat} {lt : Nat → Int32} {Hs : Nat → FA → Int32} {l : Int32} {F : FA} {i : Nat} (hi : i < n) (h : lt i = l ∧ Hs i F ≠ 0) (hno : ∀ q, q < i → ¬ (lt q = l ∧ Hs q F ≠ 0)) : ∀ m, n - i ≤ m → m ≤ n → pick n lt Hs l F m = i := by
  intro m
  induction m with
  | zero => intro h1 h2; omega
  | succ m ih =>
    intro h1 h2
    unfold pick
    by_cases e : n - (m + 1) = i
    · rw [e, if_pos h]
    · rw [if_neg (hno _ (by omega))]
      exact ih (by omega) (by omega)
theorem firstQ_at {n : Nat} {lt : Nat → Int32} {Hs : Nat → FA → Int32} {l : Int32} {F : FA} {i : Nat} (hi : i < n) (h : lt i = l ∧ Hs i F ≠ 0) (hno : ∀ q, q < i → ¬ (lt q = l ∧ Hs q F ≠ 0)) : firstQ n lt Hs l F = i := pick_at hi h hno n (by omega) (Nat.le_refl _)
theorem pick_no {n : Nat} {lt : Nat → Int32} {Hs : Nat → FA → Int32} {l : Int32} {F : FA} (hno : ∀ q, q < n → ¬ (lt q = l ∧ Hs q F ≠ 0)) : ∀ m, m ≤ n → pick n lt Hs l F m = n := by
  intro m
  induction m with
  | zero => intro _; rfl
  | succ m ih =>
    intro h
    unfold pick
    rw [if_neg (hno _ (by omega))]
    exact ih (by omega)
theorem firstQ_no {n : Nat} {lt : Nat → Int32} {Hs : Nat → FA → Int32} {l : Int32} {F : FA} (hno : ∀ q, q < n → ¬ (lt q = l ∧ Hs q F ≠ 0)) : firstQ n lt Hs l F = n := pick_no hno n (Nat.le_refl _)
theorem clamp_jm {lo hi v : Int32} (h : lo ≤ hi) : (bnd1 (f_JM_min_7cf53 hi v) fun r50 => bnd1 (f_JM_max_7cf53 lo r50) fun r53 => some r53) = some (clampI lo hi v) := by
  unfold f_JM_min_7cf53 f_JM_max_7cf53 clampI
  rw [Int32.le_iff_toInt_le] at h
  by_cases h1 : v < hi
  · rw [if_pos h1]
    simp only [bnd1_s]
    rw [Int32.lt_iff_toInt_lt] at h1
    have c2 : v ≤ hi := by rw [Int32.le_iff_toInt_le]; omega
    by_cases h2 : lo < v
    · have c1 : lo ≤ v := by rw [Int32.lt_iff_toInt_lt] at h2; rw [Int32.le_iff_toInt_le]; omega
      rw [if_pos h2, if_pos c1, if_pos c2]; rfl
    · rw [if_neg h2]
      by_cases h3 : lo ≤ v
      · rw [if_pos h3, if_pos c2]
        rw [Int32.lt_iff_toInt_lt] at h2
        rw [Int32.le_iff_toInt_le] at h3
        have : lo = v := Int32.toInt_inj.mp (by omega)
        rw [this]; rfl
      · rw [if_neg h3]; rfl
  · rw [if_neg h1]
    simp only [bnd1_s]
    rw [Int32.lt_iff_toInt_lt] at h1
    have c1 : lo ≤ v := by rw [Int32.le_iff_toInt_le]; omega
    rw [if_pos c1]
    have e3 : (if v ≤ hi then v else hi) = hi := by
      by_cases h3 : v ≤ hi
      · rw [if_pos h3]
        rw [Int32.le_iff_toInt_le] at h3
        exact Int32.toInt_inj.mp (by omega)
      · rw [if_neg h3]
    rw [e3]
    by_cases h2 : lo < hi
    · rw [if_pos h2]; rfl
    · rw [if_neg h2]
      rw [Int32.lt_iff_toInt_lt] at h2
      have : lo = hi := Int32.toInt_inj.mp (by omega)
      rw [this]; rfl
/-- facts as told to the class, and to the reference -/
def TF (σ : Mem) (F : FA) : Prop := ∀ j, j < 9 → mI σ 8 j = F j
def FF (σ : Mem) (F : FA) : Prop := ∀ j, j < 9 → mI σ 85 j = F j
section AskS
variable {N : Nat} {σ : Mem} {n : Nat} {lt : Nat → Int32} {Hs Vs : Nat → FA → Int32}
theorem LawC.run_h (hc : LawC N σ n lt Hs Vs) {σ' : Mem} (F : Fr [8, 9] [] σ σ') {A : FA} (hF : TF σ' A) {q : Nat} (hq : q < n) : ∃ σ1, f_La_run N σ' (mI σ' 7 q) = some (Hs q A, σ1) ∧ Fr [8, 9] [] σ σ1 ∧ TF σ1 A := by
  have e : mI σ' 7 q = mI σ 7 q := F.I 7 q (by decide) (by simp)
  obtain ⟨⟨σ1, h1⟩, -⟩ := hc.2.2 σ' (F.keeps (by decide)) q hq A hF
  have F1 := fm_La_run h1
  refine ⟨σ1, by rw [e]; exact h1, F.c F1 (by decide) (by simp), fun j hj => ?_⟩
  rw [F1.I 8 j (by decide) (by simp)]
  exact hF j hj
theorem LawC.run_v (hc : LawC N σ n lt Hs Vs) {σ' : Mem} (F : Fr [8, 9] [] σ σ') {A : FA} (hF : TF σ' A) {q : Nat} (hq : q < n) (hl : lt q ≠ 117) : ∃ σ1, f_La_run N σ' (mI σ' 6 q) = some (Vs q A, σ1) := by
  have e : mI σ' 6 q = mI σ 6 q := F.I 6 q (by decide) (by simp)
  obtain ⟨-, h2⟩ := hc.2.2 σ' (F.keeps (by decide)) q hq A hF
  rw [e]
  exact h2 hl
theorem la_any (hN : 100 < N) (ok : LawOk n Hs) (hc : LawC N σ n lt Hs Vs) {σ0 : Mem} (F0 : Fr [8, 9] [] σ σ0) {A : FA} (hF : TF σ0 A) : ∃ r, f_La_anyHolds N σ0 117 = some r ∧ r.1 = sup n lt Hs A := by
  unfold f_La_anyHolds
  refine loopR (L := fun k (a : Int32 × Mem) => L_La_anyHolds_l2 N 117 k a.1 a.2) (P := fun i a => a.1 = nI i ∧ Fr [8, 9] [] σ a.2 ∧ TF a.2 A ∧ ∀ q, q < i → ¬ (lt q = 117 ∧ Hs q A ≠ 0)) (a := (0, σ0)) n ?_ ?_ (by have := ok.1; omega) ⟨rfl, F0, hF, fun q h => absurd h (Nat.not_lt_zero q)⟩
  · rintro k i ⟨x, σ'⟩ hi ⟨h1, h2, h3, h4⟩
    have hx : x = nI i := h1
    subst hx
    have hn := ok.1
    have e5 : mI σ' 3 5 = nI n := (h2.I 3 5 (by decide) (by simp)).trans hc.1
    have el : mI σ' 5 i = lt i := (h2.I 5 i (by decide) (by simp)).trans (hc.2.1 i hi)
    show (∃ r, B_La_anyHolds_l2 N 117 (L_La_anyHolds_l2 N 117 k) (nI i) σ' = some r ∧ _) ∨ ∃ a' : Int32 × Mem, B_La_anyHolds_l2 N 117 (L_La_anyHolds_l2 N 117 k) (nI i) σ' = L_La_anyHolds_l2 N 117 k a'.1 a'.2 ∧ _
    unfold B_La_anyHolds_l2
    rw [e5, if_neg (nI_ge hi (by omega)), grd_t (inb_j (show i < 16 by omega) (by decide)), nI_clamp (by omega), el]
    obtain ⟨σ1, r1, r2, r3⟩ := hc.run_h h2 h3 hi
    by_cases hl : lt i = 117
    · rw [if_pos hl, grd_t (inb_j (show i < 16 by omega) (by decide)), r1]
      simp only [bnd2_s]
      by_cases hh : Hs i A = 0
      · refine Or.inr ⟨(nI (i + 1), σ1), ?_, rfl, r2, r3, fun q hq => ?_⟩
        · rw [if_pos hh]
          simp only [bnd1_s, q2, letv, if_neg (show ¬ (1 = 0) by decide), if_true]
          rw [nI_1]
        · rcases (show q < i ∨ q = i by omega) with z | rfl
          · exact h4 q z
          · exact fun z => z.2 hh
      · refine Or.inl ⟨(1, σ1), ?_, ?_⟩
        · rw [if_neg hh]
          rfl
        · show 1 = sup n lt Hs A
          unfold sup
          rw [firstQ_at hi ⟨hl, hh⟩ h4, if_pos hi]
    · rw [if_neg hl]
      refine Or.inr ⟨(nI (i + 1), σ'), ?_, rfl, h2, h3, fun q hq => ?_⟩
      · simp only [bnd1_s, q2, letv, if_neg (show ¬ (1 = 0) by decide), if_true]
        rw [nI_1]
      · rcases (show q < i ∨ q = i by omega) with z | rfl
        · exact h4 q z
        · exact fun z => hl z.1
  · rintro k ⟨x, σ'⟩ ⟨h1, h2, h3, h4⟩
    have hx : x = nI n := h1
    subst hx
    have hn := ok.1
    have e5 : mI σ' 3 5 = nI n := (h2.I 3 5 (by decide) (by simp)).trans hc.1
    refine ⟨(0, σ'), ?_, ?_⟩
    · show B_La_anyHolds_l2 N 117 (L_La_anyHolds_l2 N 117 k) (nI n) σ' = _
      unfold B_La_anyHolds_l2
      rw [e5, if_pos (nI_le (Nat.le_refl _) (by omega))]
      rfl
    · show 0 = sup n lt Hs A
      unfold sup
      rw [firstQ_no h4, if_neg (Nat.lt_irrefl n)]
theorem la_value (hN : 100 < N) (ok : LawOk n Hs) (hc : LawC N σ n lt Hs Vs) {σ0 : Mem} (F0 : Fr [8, 9] [] σ σ0) {A : FA} (hF : TF σ0 A) {l lo hi : Int32} (hl117 : l ≠ 117) (hlo : lo ≤ hi) : ∃ r, f_La_valueOf N σ0 l lo hi = some r ∧ r.1 = sval n lt Hs Vs l lo hi A := by
  unfold f_La_valueOf
  refine loopR (L := fun k (a : Int32 × Mem) => L_La_valueOf_l3 N l lo hi k a.1 a.2) (P := fun i a => a.1 = nI i ∧ Fr [8, 9] [] σ a.2 ∧ TF a.2 A ∧ ∀ q, q < i → ¬ (lt q = l ∧ Hs q A ≠ 0)) (a := (0, σ0)) n ?_ ?_ (by have := ok.1; omega) ⟨rfl, F0, hF, fun q h => absurd h (Nat.not_lt_zero q)⟩
  · rintro k i ⟨x, σ'⟩ hi' ⟨h1, h2, h3, h4⟩
    have hx : x = nI i := h1
    subst hx
    have hn := ok.1
    have e5 : mI σ' 3 5 = nI n := (h2.I 3 5 (by decide) (by simp)).trans hc.1
    have el : mI σ' 5 i = lt i := (h2.I 5 i (by decide) (by simp)).trans (hc.2.1 i hi')
    show (∃ r, B_La_valueOf_l3 N l lo hi (L_La_valueOf_l3 N l lo hi k) (nI i) σ' = some r ∧ _) ∨ ∃ a' : Int32 × Mem, B_La_valueOf_l3 N l lo hi (L_La_valueOf_l3 N l lo hi k) (nI i) σ' = L_La_valueOf_l3 N l lo hi k a'.1 a'.2 ∧ _
    unfold B_La_valueOf_l3
    rw [e5, if_neg (nI_ge hi' (by omega)), grd_t (inb_j (show i < 16 by omega) (by decide)), nI_clamp (by omega), el]
    obtain ⟨σ1, r1, r2, r3⟩ := hc.run_h h2 h3 hi'
    by_cases hl : lt i = l
    · rw [if_pos hl, grd_t (inb_j (show i < 16 by omega) (by decide)), r1]
      simp only [bnd2_s]
      by_cases hh : Hs i A = 0
      · refine Or.inr ⟨(nI (i + 1), σ1), ?_, rfl, r2, r3, fun q hq => ?_⟩
        · rw [if_pos hh]
          simp only [bnd1_s, q2, letv, if_neg (show ¬ (1 = 0) by decide), if_true]
          rw [nI_1]
        · rcases (show q < i ∨ q = i by omega) with z | rfl
          · exact h4 q z
          · exact fun z => z.2 hh
      · obtain ⟨σ2, v1⟩ := hc.run_v r2 r3 hi' (by rw [hl]; exact hl117)
        refine Or.inl ⟨(clampI lo hi (Vs i A), σ2), ?_, ?_⟩
        · rw [if_neg hh]
          simp only [bnd1_s, q2, if_neg (show ¬ (2 = 0) by decide), if_neg (show ¬ (2 = 1) by decide)]
          rw [grd_t (inb_j (show i < 16 by omega) (by decide)), v1]
          simp only [bnd2_s]
          have h := clamp_jm (v := Vs i A) hlo
          obtain ⟨z1, y1, y2⟩ := bnd1_e h
          obtain ⟨z2, y3, y4⟩ := bnd1_e y2
          rw [y1]; simp only [bnd1_s]
          rw [y3]; simp only [bnd1_s]
          rw [Option.some.inj y4]
        · show _ = sval n lt Hs Vs l lo hi A
          unfold sval
          rw [firstQ_at hi' ⟨hl, hh⟩ h4, if_pos hi']
    · rw [if_neg hl]
      refine Or.inr ⟨(nI (i + 1), σ'), ?_, rfl, h2, h3, fun q hq => ?_⟩
      · simp only [bnd1_s, q2, letv, if_neg (show ¬ (1 = 0) by decide), if_true]
        rw [nI_1]
      · rcases (show q < i ∨ q = i by omega) with z | rfl
        · exact h4 q z
        · exact fun z => hl z.1
  · rintro k ⟨x, σ'⟩ ⟨h1, h2, h3, h4⟩
    have hx : x = nI n := h1
    subst hx
    have hn := ok.1
    have e5 : mI σ' 3 5 = nI n := (h2.I 3 5 (by decide) (by simp)).trans hc.1
    refine ⟨(0, σ'), ?_, ?_⟩
    · show B_La_valueOf_l3 N l lo hi (L_La_valueOf_l3 N l lo hi k) (nI n) σ' = _
      unfold B_La_valueOf_l3
      rw [e5, if_pos (nI_le (Nat.le_refl _) (by omega))]
      rfl
    · show 0 = sval n lt Hs Vs l lo hi A
      unfold sval
      rw [firstQ_no h4, if_neg (Nat.lt_irrefl n)]
theorem LawM.run_h (hc : LawM N σ n lt Hs Vs) {σ' : Mem} (F : Fr [84, 85] [] σ σ') {A : FA} (hF : FF σ' A) {q : Nat} (hq : q < n) : ∃ σ1, f_Mo_comesTo N σ' (mI σ' 82 q) (mI σ' 83 q) = some (Hs q A, σ1) ∧ Fr [84, 85] [] σ σ1 ∧ FF σ1 A := by
  have e : mI σ' 82 q = mI σ 82 q := F.I 82 q (by decide) (by simp)
  have e' : mI σ' 83 q = mI σ 83 q := F.I 83 q (by decide) (by simp)
  obtain ⟨⟨σ1, h1⟩, -⟩ := hc.2.2 σ' (F.keeps (by decide)) q hq A hF
  have F1 := fm_Mo_comesTo h1
  refine ⟨σ1, by rw [e, e']; exact h1, F.c F1 (by decide) (by simp), fun j hj => ?_⟩
  rw [F1.I 85 j (by decide) (by simp)]
  exact hF j hj
theorem LawM.run_v (hc : LawM N σ n lt Hs Vs) {σ' : Mem} (F : Fr [84, 85] [] σ σ') {A : FA} (hF : FF σ' A) {q : Nat} (hq : q < n) (hl : lt q ≠ 117) : ∃ σ1, f_Mo_comesTo N σ' (mI σ' 81 q) (mI σ' 82 q) = some (Vs q A, σ1) := by
  have e : mI σ' 82 q = mI σ 82 q := F.I 82 q (by decide) (by simp)
  have e' : mI σ' 81 q = mI σ 81 q := F.I 81 q (by decide) (by simp)
  obtain ⟨-, h2⟩ := hc.2.2 σ' (F.keeps (by decide)) q hq A hF
  rw [e, e']
  exact h2 hl
theorem LawOk.one (ok : LawOk n Hs) (q : Nat) (A : FA) : Hs q A = 1 ↔ Hs q A ≠ 0 := by
  rcases ok.2 q A with h | h
  · rw [h]; decide
  · rw [h]; decide
theorem mo_up (hN : 100 < N) (ok : LawOk n Hs) (hc : LawM N σ n lt Hs Vs) {σ0 : Mem} (F0 : Fr [84, 85] [] σ σ0) {A : FA} (hF : FF σ0 A) : ∃ r, L_Mo_isUp_l7 N N 0 σ0 = some r ∧ r.1 = sup n lt Hs A := by
  refine loopR (L := fun k (a : Int32 × Mem) => L_Mo_isUp_l7 N k a.1 a.2) (P := fun i a => a.1 = nI i ∧ Fr [84, 85] [] σ a.2 ∧ FF a.2 A ∧ ∀ q, q < i → ¬ (lt q = 117 ∧ Hs q A ≠ 0)) (a := (0, σ0)) n ?_ ?_ (by have := ok.1; omega) ⟨rfl, F0, hF, fun q h => absurd h (Nat.not_lt_zero q)⟩
  · rintro k i ⟨x, σ'⟩ hi ⟨h1, h2, h3, h4⟩
    have hx : x = nI i := h1
    subst hx
    have hn := ok.1
    have e5 : mI σ' 65 20 = nI n := (h2.I 65 20 (by decide) (by simp)).trans hc.1
    have el : mI σ' 80 i = lt i := (h2.I 80 i (by decide) (by simp)).trans (hc.2.1 i hi)
    show (∃ r, B_Mo_isUp_l7 N (L_Mo_isUp_l7 N k) (nI i) σ' = some r ∧ _) ∨ ∃ a' : Int32 × Mem, B_Mo_isUp_l7 N (L_Mo_isUp_l7 N k) (nI i) σ' = L_Mo_isUp_l7 N k a'.1 a'.2 ∧ _
    unfold B_Mo_isUp_l7
    rw [e5, if_neg (nI_ge hi (by omega)), grd_t (inb_j (show i < 16 by omega) (by decide)), nI_clamp (by omega), el]
    obtain ⟨σ1, r1, r2, r3⟩ := hc.run_h h2 h3 hi
    by_cases hl : lt i = 117
    · rw [if_pos hl, grd_t (inb_j (show i < 16 by omega) (by decide)), grd_t (inb_j (show i < 16 by omega) (by decide)), r1]
      simp only [bnd2_s]
      by_cases hh : Hs i A = 0
      · refine Or.inr ⟨(nI (i + 1), σ1), ?_, rfl, r2, r3, fun q hq => ?_⟩
        · rw [if_neg (fun z => ((ok.one i A).mp z) hh)]
          simp only [bnd1_s, q2, letv, if_neg (show ¬ (1 = 0) by decide), if_true]
          rw [nI_1]
        · rcases (show q < i ∨ q = i by omega) with z | rfl
          · exact h4 q z
          · exact fun z => z.2 hh
      · refine Or.inl ⟨(1, σ1), ?_, ?_⟩
        · rw [if_pos ((ok.one i A).mpr hh)]
          rfl
        · show 1 = sup n lt Hs A
          unfold sup
          rw [firstQ_at hi ⟨hl, hh⟩ h4, if_pos hi]
    · rw [if_neg hl]
      refine Or.inr ⟨(nI (i + 1), σ'), ?_, rfl, h2, h3, fun q hq => ?_⟩
      · simp only [bnd1_s, q2, letv, if_neg (show ¬ (1 = 0) by decide), if_true]
        rw [nI_1]
      · rcases (show q < i ∨ q = i by omega) with z | rfl
        · exact h4 q z
        · exact fun z => hl z.1
  · rintro k ⟨x, σ'⟩ ⟨h1, h2, h3, h4⟩
    have hx : x = nI n := h1
    subst hx
    have hn := ok.1
    have e5 : mI σ' 65 20 = nI n := (h2.I 65 20 (by decide) (by simp)).trans hc.1
    refine ⟨(0, σ'), ?_, ?_⟩
    · show B_Mo_isUp_l7 N (L_Mo_isUp_l7 N k) (nI n) σ' = _
      unfold B_Mo_isUp_l7
      rw [e5, if_pos (nI_le (Nat.le_refl _) (by omega))]
      rfl
    · show 0 = sup n lt Hs A
      unfold sup
      rw [firstQ_no h4, if_neg (Nat.lt_irrefl n)]
theorem mo_byLaw (hN : 100 < N) (ok : LawOk n Hs) (hc : LawM N σ n lt Hs Vs) {σ0 : Mem} (F0 : Fr [84, 85] [] σ σ0) {A : FA} (hF : FF σ0 A) {l lo hi : Int32} (hl117 : l ≠ 117) : ∃ r, f_Mo_byLaw N σ0 l lo hi = some r ∧ r.1 = sval n lt Hs Vs l lo hi A := by
  unfold f_Mo_byLaw
  obtain ⟨w, w1, w2⟩ := loopR (L := fun k (a : Int32 × Mem) => L_Mo_byLaw_l3 N l lo hi k a.1 a.2) (P := fun i a => a.1 = nI i ∧ Fr [84, 85] [] σ a.2 ∧ FF a.2 A ∧ ∀ q, q < i → ¬ (lt q = l ∧ Hs q A ≠ 0)) (Q := fun r => (∃ σ', r = .inl (0, σ') ∧ sval n lt Hs Vs l lo hi A = 0) ∨ ∃ q σ', q < n ∧ r = .inr (nI q, σ') ∧ lt q = l ∧ Fr [84, 85] [] σ σ' ∧ FF σ' A ∧ sval n lt Hs Vs l lo hi A = clampI lo hi (Vs q A)) (a := (0, σ0)) (K := N) n (by
      rintro k i ⟨x, σ'⟩ hi' ⟨h1, h2, h3, h4⟩
      have hx : x = nI i := h1
      subst hx
      have hn := ok.1
      have e5 : mI σ' 65 20 = nI n := (h2.I 65 20 (by decide) (by simp)).trans hc.1
      have el : mI σ' 80 i = lt i := (h2.I 80 i (by decide) (by simp)).trans (hc.2.1 i hi')
      show (∃ r, B_Mo_byLaw_l3 N l lo hi (L_Mo_byLaw_l3 N l lo hi k) (nI i) σ' = some r ∧ _) ∨ ∃ a' : Int32 × Mem, B_Mo_byLaw_l3 N l lo hi (L_Mo_byLaw_l3 N l lo hi k) (nI i) σ' = L_Mo_byLaw_l3 N l lo hi k a'.1 a'.2 ∧ _
      unfold B_Mo_byLaw_l3
      rw [e5, if_neg (nI_ge hi' (by omega)), grd_t (inb_j (show i < 16 by omega) (by decide)), nI_clamp (by omega), el]
      obtain ⟨σ1, r1, r2, r3⟩ := hc.run_h h2 h3 hi'
      by_cases hl : lt i = l
      · rw [if_pos hl, grd_t (inb_j (show i < 16 by omega) (by decide)), grd_t (inb_j (show i < 16 by omega) (by decide)), r1]
        simp only [bnd2_s]
        by_cases hh : Hs i A = 0
        · refine Or.inr ⟨(nI (i + 1), σ1), ?_, rfl, r2, r3, fun q hq => ?_⟩
          · rw [if_neg (fun z => ((ok.one i A).mp z) hh)]
            simp only [bnd1_s, q2, letv, if_neg (show ¬ (1 = 0) by decide), if_true]
            rw [nI_1]
          · rcases (show q < i ∨ q = i by omega) with z | rfl
            · exact h4 q z
            · exact fun z => z.2 hh
        · refine Or.inl ⟨.inr (nI i, σ1), ?_, Or.inr ⟨i, σ1, hi', rfl, hl, r2, r3, ?_⟩⟩
          · rw [if_pos ((ok.one i A).mpr hh)]
            rfl
          · unfold sval
            rw [firstQ_at hi' ⟨hl, hh⟩ h4, if_pos hi']
      · rw [if_neg hl]
        refine Or.inr ⟨(nI (i + 1), σ'), ?_, rfl, h2, h3, fun q hq => ?_⟩
        · simp only [bnd1_s, q2, letv, if_neg (show ¬ (1 = 0) by decide), if_true]
          rw [nI_1]
        · rcases (show q < i ∨ q = i by omega) with z | rfl
          · exact h4 q z
          · exact fun z => hl z.1) (by
      rintro k ⟨x, σ'⟩ ⟨h1, h2, h3, h4⟩
      have hx : x = nI n := h1
      subst hx
      have hn := ok.1
      have e5 : mI σ' 65 20 = nI n := (h2.I 65 20 (by decide) (by simp)).trans hc.1
      refine ⟨.inl (0, σ'), ?_, Or.inl ⟨σ', rfl, ?_⟩⟩
      · show B_Mo_byLaw_l3 N l lo hi (L_Mo_byLaw_l3 N l lo hi k) (nI n) σ' = _
        unfold B_Mo_byLaw_l3
        rw [e5, if_pos (nI_le (Nat.le_refl _) (by omega))]
        rfl
      · unfold sval
        rw [firstQ_no h4, if_neg (Nat.lt_irrefl n)]) (by have := ok.1; omega) ⟨rfl, F0, hF, fun q h => absurd h (Nat.not_lt_zero q)⟩
  have w1' : L_Mo_byLaw_l3 N l lo hi N 0 σ0 = some w := w1
  rw [w1']
  rcases w2 with ⟨σ', rfl, e⟩ | ⟨q, σ', hq, rfl, hl, r2, r3, e⟩
  · exact ⟨(0, σ'), rfl, e.symm⟩
  · obtain ⟨σ2, v1⟩ := hc.run_v r2 r3 hq (by rw [hl]; exact hl117)
    have hn := ok.1
    simp only [bnd1_s, sm, q2]
    rw [grd_t (inb_j (show q < 16 by omega) (by decide)), grd_t (inb_j (show q < 16 by omega) (by decide)), nI_clamp (by omega), v1]
    simp only [bnd2_s]
    rw [e]
    unfold clampI
    by_cases c1 : lo ≤ Vs q A
    · rw [if_pos c1]
      by_cases c2 : Vs q A ≤ hi
      · rw [if_pos c2]
        exact ⟨_, rfl, by rw [if_pos c1, if_pos c2]⟩
      · rw [if_neg c2]
        exact ⟨_, rfl, by rw [if_pos c1, if_neg c2]⟩
    · rw [if_neg c1]
      exact ⟨_, rfl, by rw [if_neg c1]⟩
end AskS
-- ===== the facts are told =====
theorem ja_fill {N : Nat} {σ : Mem} {g n : Nat} (v : Int32) (hn : n < N) (hn2 : n < 2 ^ 30) : ∃ σ', f_JA_fill_53178 N σ g n v = some σ' ∧ ∀ j, mI σ' g j = if j < n then v else mI σ g j := by
  unfold f_JA_fill_53178
  simp only [letv]
  refine loopR (L := fun k (a : Int32 × Mem) => L_JA_fill_53178_l5 N g n v (Int32.ofNat n) k a.1 a.2) (P := fun i a => a.1 = nI i ∧ ∀ j, mI a.2 g j = if j < i then v else mI σ g j) (a := (0, σ)) n ?_ ?_ hn ⟨rfl, fun j => by rw [if_neg (Nat.not_lt_zero j)]⟩
  · rintro k i ⟨x, σ'⟩ hi ⟨h1, h2⟩
    have hx : x = nI i := h1
    subst hx
    refine Or.inr ⟨(nI (i + 1), sI σ' g i v), ?_, rfl, fun j => ?_⟩
    · show B_JA_fill_53178_l5 N g n v (Int32.ofNat n) (L_JA_fill_53178_l5 N g n v (Int32.ofNat n) k) (nI i) σ' = _
      unfold B_JA_fill_53178_l5
      rw [if_neg (show ¬ (Int32.ofNat n ≤ nI i) from nI_ge hi (by omega)), grd_t (inb_j hi (by omega)), nI_clamp (by omega)]
      simp only [letv]
      rw [nI_1]
    · show mI (sI σ' g i v) g j = _
      rw [rdI]
      by_cases e : j = i
      · subst e
        rw [if_pos ⟨rfl, rfl⟩, if_pos (by omega)]
      · rw [if_neg (fun z => e z.2), h2 j]
        by_cases q : j < i
        · rw [if_pos q, if_pos (by omega)]
        · rw [if_neg q, if_neg (by omega)]
  · rintro k ⟨x, σ'⟩ ⟨h1, h2⟩
    have hx : x = nI n := h1
    subst hx
    refine ⟨σ', ?_, h2⟩
    show B_JA_fill_53178_l5 N g n v (Int32.ofNat n) (L_JA_fill_53178_l5 N g n v (Int32.ofNat n) k) (nI n) σ' = _
    unfold B_JA_fill_53178_l5
    rw [if_pos (show Int32.ofNat n ≤ nI n from nI_le (Nat.le_refl _) (by omega))]
theorem fHour_at (h m : Int32) (j : Nat) : fHour h m j = if j = 1 then m else if j = 0 then h else 0 := rfl
theorem la_askHour {N : Nat} (hN : 100 < N) (σ : Mem) (h m : Int32) : ∃ σ', f_La_askHour N σ h m = some σ' ∧ TF σ' (fHour h m) := by
  obtain ⟨σ5, q1, q2⟩ := ja_fill (N := N) (σ := σ) (g := 8) (n := 9) 0 (by omega) (by decide)
  refine ⟨sI (sI σ5 8 0 h) 8 1 m, ?_, fun j hj => ?_⟩
  · unfold f_La_askHour
    rw [q1]
    rfl
  · rw [rdI, rdI, q2 j, if_pos hj, fHour_at]
    by_cases e1 : j = 1
    · subst e1; simp
    · by_cases e0 : j = 0
      · subst e0; simp
      · simp [e1, e0]
theorem mo_feels {N : Nat} (hN : 100 < N) (σ : Mem) (h : Int32) : ∃ σ', f_Mo_feels N σ h = some σ' ∧ FF σ' (fHour h (mI σ 65 2)) := by
  unfold f_Mo_feels
  refine loopR (L := fun k (a : Int32 × Mem) => L_Mo_feels_l2 N h k a.1 a.2) (P := fun i a => a.1 = nI i ∧ Fr [85] [] σ a.2 ∧ ∀ j, j < i → mI a.2 85 j = 0) (a := (0, σ)) 9 ?_ ?_ (by omega) ⟨rfl, Fr.rf _ _ _, fun j hj => absurd hj (Nat.not_lt_zero j)⟩
  · rintro k i ⟨x, σ'⟩ hi ⟨h1, h2, h3⟩
    have hx : x = nI i := h1
    subst hx
    refine Or.inr ⟨(nI (i + 1), sI σ' 85 i 0), ?_, rfl, h2.aI rfl (by decide), fun j hj => ?_⟩
    · show B_Mo_feels_l2 N h (L_Mo_feels_l2 N h k) (nI i) σ' = _
      unfold B_Mo_feels_l2
      rw [if_neg (show ¬ ((9 : Int32) ≤ nI i) from nI_ge (b := 9) hi (by decide)), grd_t (inb_j hi (by decide)), nI_clamp (by omega)]
      simp only [letv]
      rw [nI_1]
    · show mI (sI σ' 85 i 0) 85 j = _
      rw [rdI]
      by_cases e : j = i
      · rw [if_pos ⟨rfl, e⟩]
      · rw [if_neg (fun z => e z.2)]
        exact h3 j (by omega)
  · rintro k ⟨x, σ'⟩ ⟨h1, h2, h3⟩
    have hx : x = nI 9 := h1
    subst hx
    refine ⟨sI (sI σ' 85 0 h) 85 1 (mI (sI σ' 85 0 h) 65 2), ?_, fun j hj => ?_⟩
    · show B_Mo_feels_l2 N h (L_Mo_feels_l2 N h k) (nI 9) σ' = _
      unfold B_Mo_feels_l2
      rw [if_pos (by decide)]
      rfl
    · rw [rdI, rdI, rdI, fHour_at, show mI σ' 65 2 = mI σ 65 2 from h2.I 65 2 (by decide) (by simp)]
      have h3' := h3 j (by omega)
      change mI σ' 85 j = 0 at h3'
      by_cases e1 : j = 1
      · subst e1; simp
      · by_cases e0 : j = 0
        · subst e0; simp
        · simp [e1, e0, h3']
