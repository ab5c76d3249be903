-- part mm: the reference's sale
def dF (S b : Nat) : Nat := if S.testBit b = true then 144 else 0
def UF (m S : Nat) : Nat := sumN (fun b => dF S b * PR (RM m) (7 - b)) 8
theorem UF_HR (m S : Nat) : UF m S = HR (RM m) (dF S) 8 := by
  have e := HR_sum (R := RM m) (d := dF S) 8 (Nat.le_refl 8)
  rw [show PR (RM m) (8 - 8) = 1 from rfl, Nat.mul_one] at e
  exact e
theorem UF_lt {m S : Nat} (h : sbs S m) : UF m S < MM := by
  rw [UF_HR]
  have := HR_lt (R := RM m) (d := dF S) (B := 145) (fun i _ => (RM_le m i).1) (fun i _ => by
    unfold dF RM
    cases c : S.testBit i with
    | true => rw [if_pos rfl, if_pos (h i c)]; omega
    | false => rw [if_neg (by decide)]; split <;> omega) 8 (Nat.le_refl 8)
  rw [show (145 : Nat) ^ 8 = MM by decide] at this
  omega
theorem UF_rmv {m S b : Nat} (hb : b < 8) (h : S.testBit b = true) : UF m S = UF m (rmv S b) + 144 * PR (RM m) (7 - b) := by
  unfold UF
  refine sumN_upd 8 hb (fun i _ hi => ?_) ?_
  · show dF S i * _ = dF (rmv S b) i * _
    have : dF S i = dF (rmv S b) i := by
      unfold dF
      by_cases c : S.testBit i = true
      · rw [if_pos c, if_pos ((rmv_sub h).mpr ⟨c, hi⟩)]
      · rw [if_neg c, if_neg (fun z => c ((rmv_sub h).mp z).1)]
    rw [this]
  · show dF S b * _ = dF (rmv S b) b * _ + _
    unfold dF
    rw [if_pos h, if_neg (fun z => ((rmv_sub h).mp z).2 rfl)]; omega
theorem mm_split {a r : Nat} (h : r < MM) : (a * MM + r) / MM = a ∧ (a * MM + r) % MM = r := by
  rw [Nat.mul_comm]
  exact ⟨by rw [Nat.mul_add_div (by decide), Nat.div_eq_of_lt h]; omega, by rw [Nat.mul_add_mod, Nat.mod_eq_of_lt h]⟩
theorem mm_of (v : Nat) : v = v / MM * MM + v % MM := by rw [Nat.mul_comm]; exact (Nat.div_add_mod v MM).symm
def Bd (m B : Nat) (T : Nat → Option Nat) : Prop := ∀ S v, sbs S m → T S = some v → v / MM ≤ B ∧ v % MM ≤ UF m S
theorem HR_mono {R d d' : Nat → Nat} : ∀ n, (∀ i, i < n → d i ≤ d' i) → HR R d n ≤ HR R d' n := by
  intro n
  induction n with
  | zero => intro _; exact Nat.le_refl _
  | succ n ih =>
    intro h
    show HR R d n * R n + d n ≤ HR R d' n * R n + d' n
    have a := Nat.mul_le_mul_right (R n) (ih (fun i hi => h i (by omega)))
    have b := h n (by omega)
    omega
theorem dR_le {S : Nat} {r : Nat → Nat} (i : Nat) : dR S r i ≤ dF S i := by
  unfold dR dF; split <;> omega
theorem row_bd {m p S v : Nat} {sh : Nat → Bool} {w : Nat → Nat → Nat} {r : Nat → Nat} (hS : sbs S m) (hr : Row (oR m sh w) p S r) (ht : tot (oR m sh w) S r = v) : v / MM = vl w S r ∧ v % MM = HR (RM m) (dR S r) 8 := by
  rw [tot_oR hr] at ht
  rw [← ht]
  exact mm_split (HRR_lt hS)
theorem DDR_bd {m p : Nat} {sh : Nat → Bool} {w : Nat → Nat → Nat} (hw : ∀ b q, w b q ≤ 999) : Bd m 7992 (DD (oR m sh w) p) := fun S v hS h => by
  obtain ⟨r, h1, h2⟩ := DD_att p S v h
  obtain ⟨a, b⟩ := row_bd hS h1 h2
  rw [a, b, UF_HR]
  exact ⟨vl_le hw S r, HR_mono 8 (fun i _ => dR_le i)⟩
/-- one more buyer: what the sum and the key become -/
theorem add_bd {m p S b x y : Nat} {sh : Nat → Bool} {w : Nat → Nat → Nat} {T : Nat → Option Nat} (hp : p < 144) (hb : b < 8) (hS : sbs S m) (h : S.testBit b = true) (hT : Bd m 7992 T) (hx : T (rmv S b) = some x) (hy : oR m sh w b p = some y) : (x + y) / MM = x / MM + w b p ∧ (x + y) % MM ≤ UF m S ∧ UF m S - (x + y) % MM = (UF m (rmv S b) - x % MM) + p * PR (RM m) (7 - b) ∧ x % MM ≤ UF m (rmv S b) := by
  obtain ⟨y1, y2, y3⟩ := oR_some hy
  have hS' : sbs (rmv S b) m := fun j hj => hS j ((rmv_sub h).mp hj).1
  obtain ⟨b1, b2⟩ := hT _ x hS' hx
  have u := UF_rmv (m := m) hb h
  have ul := UF_lt hS
  have hx' := mm_of x
  generalize PR (RM m) (7 - b) = q at y3 u
  have e1 : (144 - p) * q = 144 * q - p * q := Nat.sub_mul 144 p q
  have e2 : p * q ≤ 144 * q := Nat.mul_le_mul_right q (by omega)
  have e3 : x + y = (x / MM + w b p) * MM + (x % MM + (144 - p) * q) := by rw [Nat.add_mul, y3]; omega
  have hlt : x % MM + (144 - p) * q < MM := by omega
  obtain ⟨d1, d2⟩ := mm_split (a := x / MM + w b p) hlt
  rw [e3, d1, d2]
  exact ⟨rfl, by omega, by omega, b2⟩
theorem DBR_bd {m p n : Nat} {sh : Nat → Bool} {w : Nat → Nat → Nat} {T : Nat → Option Nat} (hw : ∀ b q, w b q ≤ 999) (hp : p < 144) (hn : n ≤ 8) (hT : Bd m 7992 T) : Bd m 8991 (fun S => DB (oR m sh w) T p S n) := fun S v hS h => by
  rcases DB_some n h with q | ⟨b, x, y, q1, q2, q3, q4, q5⟩
  · obtain ⟨a, c⟩ := hT S v hS q; exact ⟨by omega, c⟩
  · obtain ⟨a1, a2, -⟩ := add_bd (sh := sh) (w := w) hp (by omega) hS q2 hT q3 q4
    rw [q5]
    have := hw b p
    have := (hT _ x (fun j hj => hS j ((rmv_sub q2).mp hj).1) q3).1
    exact ⟨by omega, a2⟩
def RT (σ : Mem) (m S : Nat) (v : Option Nat) : Prop := (v = none → mI σ 95 S = -1) ∧ ∀ x, v = some x → mI σ 95 S = nI (x / MM) ∧ mL σ 96 S = lN (UF m S - x % MM)
theorem RT_n {σ : Mem} {m S : Nat} : RT σ m S none ↔ mI σ 95 S = -1 := ⟨fun h => h.1 rfl, fun h => ⟨fun _ => h, fun x e => by cases e⟩⟩
theorem RT_s {σ : Mem} {m S v : Nat} : RT σ m S (some v) ↔ mI σ 95 S = nI (v / MM) ∧ mL σ 96 S = lN (UF m S - v % MM) := ⟨fun h => h.2 v rfl, fun h => ⟨fun e => absurd e (by simp), fun x e => Option.some.inj e ▸ h⟩⟩
theorem lex_cmp {a b : Nat} : a < b ↔ (a / MM < b / MM ∨ (a / MM = b / MM ∧ a % MM < b % MM)) := by
  have h := hcmp1 (a := a / MM) (b := b / MM) (R := MM) (x := a % MM) (y := b % MM) (Nat.mod_lt _ (by decide)) (Nat.mod_lt _ (by decide))
  rw [← mm_of a, ← mm_of b] at h
  exact h
theorem nI_m1 {a : Nat} (h : a < 2 ^ 31) : ¬ nI a < (-1 : Int32) := fun z => by
  have h0 : ¬ nI a < 0 := nI_pos h
  exact h0 (Int32.lt_trans z (by decide))
theorem mo_sellsL {N m p S : Nat} {sh : Nat → Bool} {w : Nat → Nat → Nat} {σ : Mem} {T : Nat → Option Nat} (hN : 1000 < N) (hp : p < 144) (hsh : sh p = true) (hw : ∀ b q, w b q ≤ 999) (hS : S < 256) (hSm : sbs S m) (hT : Bd m 7992 T) (h97 : ∀ b, b < 8 → m.testBit b = true → mL σ 97 b = lN (PR (RM m) (7 - b))) (h98 : ∀ b, b < 8 → m.testBit b = true → mI σ 98 b = nI (w b p)) (h95 : ∀ S', S' < 256 → sbs S' m → S' ≤ S → RT σ m S' (T S')) : ∃ σ', L_Mo_sells_l20 N (nI m) (nI p) (nI S) N 0 σ = some σ' ∧ Fr [95, 96] [] σ σ' ∧ RT σ' m S (DB (oR m sh w) T p S 8) ∧ ∀ j, j ≠ S → mI σ' 95 j = mI σ 95 j ∧ mL σ' 96 j = mL σ 96 j := by
  refine loopR (L := fun z (x : Int32 × Mem) => L_Mo_sells_l20 N (nI m) (nI p) (nI S) z x.1 x.2) (P := fun i x => x.1 = nI i ∧ Fr [95, 96] [] σ x.2 ∧ RT x.2 m S (DB (oR m sh w) T p S i) ∧ ∀ j, j ≠ S → mI x.2 95 j = mI σ 95 j ∧ mL x.2 96 j = mL σ 96 j) (a := (0, σ)) 8 ?_ ?_ (by omega) ⟨rfl, Fr.rf _ _ _, h95 S hS hSm (Nat.le_refl S), fun _ _ => ⟨rfl, rfl⟩⟩
  · rintro z i ⟨x, s⟩ hi ⟨h1, h2, h3, h4⟩
    change x = _ at h1
    change Fr _ _ σ s at h2
    change RT s m S _ at h3
    change ∀ j, j ≠ S → mI s 95 j = mI σ 95 j ∧ mL s 96 j = mL σ 96 j at h4
    subst h1
    right
    have gi := inb_j hi (show 8 < 2 ^ 31 by decide)
    have gS := inb_j hS (show 256 < 2 ^ 31 by decide)
    have stp : ∀ s' : Mem, (B_Mo_sells_l20 N (nI m) (nI p) (nI S) (L_Mo_sells_l20 N (nI m) (nI p) (nI S) z) (nI i) s = L_Mo_sells_l20 N (nI m) (nI p) (nI S) z (nI (i + 1)) s') → Fr [95, 96] [] σ s' → RT s' m S (DB (oR m sh w) T p S (i + 1)) → (∀ j, j ≠ S → mI s' 95 j = mI σ 95 j ∧ mL s' 96 j = mL σ 96 j) → ∃ a' : Int32 × Mem, L_Mo_sells_l20 N (nI m) (nI p) (nI S) (z + 1) (nI i) s = L_Mo_sells_l20 N (nI m) (nI p) (nI S) z a'.1 a'.2 ∧ (a'.1 = nI (i + 1) ∧ Fr [95, 96] [] σ a'.2 ∧ RT a'.2 m S (DB (oR m sh w) T p S (i + 1)) ∧ ∀ j, j ≠ S → mI a'.2 95 j = mI σ 95 j ∧ mL a'.2 96 j = mL σ 96 j) := fun s' g1 g2 g3 g4 => ⟨(nI (i + 1), s'), g1, rfl, g2, g3, g4⟩
    unfold B_Mo_sells_l20 at stp
    rw [if_neg (show ¬ ((8 : Int32) ≤ nI i) from nI_ge (b := 8) hi (by decide)), mo_has, stands_bit (by omega) (by omega)] at stp
    simp only [bnd1_s, letv, nI_1] at stp
    by_cases c : S.testBit i = true
    · have hDB : DB (oR m sh w) T p S (i + 1) = omx (DB (oR m sh w) T p S i) (oad (T (rmv S i)) (oR m sh w i p)) := by
        show omx (DB (oR m sh w) T p S i) (if S.testBit i = true then _ else _) = _
        rw [if_pos c]
      have hr := rmv_lt c
      have him := hSm i c
      have hr' : sbs (rmv S i) m := fun j hj => hSm j ((rmv_sub c).mp hj).1
      have gr := inb_j (show rmv S i < 256 by omega) (show 256 < 2 ^ 31 by decide)
      have e95 := h95 (rmv S i) (by omega) hr' (by omega)
      obtain ⟨k1, k2⟩ := h4 (rmv S i) (by omega)
      simp only [if_pos c] at stp
      rw [if_neg ne10, rmv_and hS hi c, grd_t gr, nI_clamp (show rmv S i < 2 ^ 31 by omega), k1, k2] at stp
      cases eT : T (rmv S i) with
      | none =>
        rw [eT] at e95
        rw [RT_n] at e95
        rw [e95, if_neg (by decide)] at stp
        simp only [bnd1_s, q3, if_true] at stp
        refine stp s rfl h2 ?_ h4
        rw [hDB, eT]
        have : omx (DB (oR m sh w) T p S i) (oad none (oR m sh w i p)) = DB (oR m sh w) T p S i := by cases DB (oR m sh w) T p S i <;> rfl
        rw [this]; exact h3
      | some x =>
        rw [eT] at e95
        obtain ⟨e1, e2⟩ := RT_s.mp e95
        have hy := oR_at (w := w) him hsh
        obtain ⟨a1, a2, a3, a4⟩ := add_bd (sh := sh) (w := w) hp hi hSm c hT eT hy
        obtain ⟨xb, -⟩ := hT _ x hr' eT
        have hwp := hw i p
        rw [hy] at hDB
        generalize hyv : w i p * MM + (144 - p) * PR (RM m) (7 - i) = y at a1 a2 a3 hDB hy
        rw [eT] at hDB
        change DB (oR m sh w) T p S (i + 1) = omx (DB (oR m sh w) T p S i) (some (x + y)) at hDB
        have hUF := UF_lt hSm
        have e97 : mL s 97 i = _ := (h2.L 97 i (by decide) (by simp)).trans (h97 i hi him)
        have e98 : mI s 98 i = _ := (h2.I 98 i (by decide) (by simp)).trans (h98 i hi him)
        rw [e1, e2, if_pos (show (0 : Int32) ≤ nI (x / MM) from nI_le (a := 0) (Nat.zero_le _) (by omega)), grd_t gr, grd_t gi, nI_clamp (show i < 2 ^ 31 by omega), e98, nI_add, ← a1, grd_t gr, grd_t gi, e97, nI_l (show p < 2 ^ 31 by omega), lN_mul, lN_add, ← a3, grd_t gS, nI_clamp (show S < 2 ^ 31 by omega)] at stp
        have hnew : ∀ s', s' = sL (sI s 95 S (nI ((x + y) / MM))) 96 S (lN (UF m S - (x + y) % MM)) → Fr [95, 96] [] σ s' ∧ (∀ v, v = some (x + y) → RT s' m S v) ∧ ∀ j, j ≠ S → mI s' 95 j = mI σ 95 j ∧ mL s' 96 j = mL σ 96 j := fun s' e => by
          subst e
          refine ⟨(h2.aI rfl (by decide)).aL rfl (by decide), fun v hv => ?_, fun j hj => ?_⟩
          · subst hv
            exact RT_s.mpr ⟨by rw [mI_sL, rdI, if_pos ⟨rfl, rfl⟩], by rw [rdL, if_pos ⟨rfl, rfl⟩]⟩
          · exact ⟨by rw [mI_sL, rdI, if_neg (fun z => hj z.2)]; exact (h4 j hj).1, by rw [rdL, if_neg (fun z => hj z.2), mL_sI]; exact (h4 j hj).2⟩
        cases eD : DB (oR m sh w) T p S i with
        | none =>
          rw [eD] at h3 hDB
          rw [RT_n] at h3
          rw [h3, if_neg (nI_m1 (by omega)), grd_t gS, if_neg (nIm1 (by omega))] at stp
          simp only [bnd1_s, q3, if_neg (show ¬ (1 = 0) by decide)] at stp
          rw [grd_t gS, grd_t gS] at stp
          obtain ⟨n1, n2, n3⟩ := hnew _ rfl
          exact stp _ rfl n1 (n2 _ hDB) n3
        | some cv =>
          rw [eD] at h3 hDB
          obtain ⟨f1, f2⟩ := RT_s.mp h3
          change DB (oR m sh w) T p S (i + 1) = some (max cv (x + y)) at hDB
          obtain ⟨cb1, cb2⟩ := DBR_bd (sh := sh) (w := w) hw hp (show i ≤ 8 by omega) hT S cv hSm eD
          have hlex := lex_cmp (a := cv) (b := x + y)
          have hkeep : x + y ≤ cv → RT s m S (DB (oR m sh w) T p S (i + 1)) := fun q => by rw [hDB, Nat.max_eq_left q]; exact RT_s.mpr ⟨f1, f2⟩
          rw [f1, f2] at stp
          by_cases c1 : (x + y) / MM < cv / MM
          · rw [if_pos (nI_lt c1 (by omega))] at stp
            simp only [bnd1_s, q3, if_true] at stp
            exact stp s rfl h2 (hkeep (by omega)) h4
          · rw [if_neg (fun z => c1 ((nI_ltI (by omega) (by omega)).mp z)), grd_t gS] at stp
            by_cases c2 : (x + y) / MM = cv / MM
            · rw [if_pos (by rw [c2]), grd_t gS] at stp
              by_cases c3 : UF m S - (x + y) % MM < UF m S - cv % MM
              · have hUM : UF m S < 2 ^ 63 := Nat.lt_trans hUF (by decide)
                rw [if_pos ((lgc _ _).mpr ((pk_lLT (by omega) (by omega)).mpr c3))] at stp
                simp only [bnd1_s, q3, if_neg (show ¬ (1 = 0) by decide)] at stp
                rw [grd_t gS, grd_t gS] at stp
                obtain ⟨n1, n2, n3⟩ := hnew _ rfl
                exact stp _ rfl n1 (n2 _ (by rw [hDB, Nat.max_eq_right (by omega)])) n3
              · have hUM : UF m S < 2 ^ 63 := Nat.lt_trans hUF (by decide)
                rw [if_neg (fun z => c3 ((pk_lLT (by omega) (by omega)).mp ((lgc _ _).mp z)))] at stp
                simp only [bnd1_s, q3, if_true] at stp
                exact stp s rfl h2 (hkeep (by omega)) h4
            · rw [if_neg (fun z => c2 ((nI_eq (by omega) (by omega)).mp z))] at stp
              simp only [bnd1_s, q3, if_neg (show ¬ (1 = 0) by decide)] at stp
              rw [grd_t gS, grd_t gS] at stp
              obtain ⟨n1, n2, n3⟩ := hnew _ rfl
              exact stp _ rfl n1 (n2 _ (by rw [hDB, Nat.max_eq_right (by omega)])) n3
    · simp only [if_neg c, if_true, bnd1_s, q3] at stp
      refine stp s rfl h2 ?_ h4
      have : DB (oR m sh w) T p S (i + 1) = DB (oR m sh w) T p S i := by
        show omx (DB (oR m sh w) T p S i) (if S.testBit i = true then _ else _) = _
        rw [if_neg c]
        cases DB (oR m sh w) T p S i <;> rfl
      rw [this]; exact h3
  · rintro z ⟨x, s⟩ ⟨h1, h2, h3, h4⟩
    change x = _ at h1
    subst h1
    refine ⟨s, ?_, h2, h3, h4⟩
    show B_Mo_sells_l20 N (nI m) (nI p) (nI S) _ (nI 8) s = _
    unfold B_Mo_sells_l20
    rw [if_pos (by decide)]
