-- part pp: both best sales are one row
def rr (m S : Nat) (r : Nat → Nat) (b : Nat) : Nat := if m.testBit b = true then (if S.testBit b = true then r b else 144) else 0
theorem HR_add {R d e : Nat → Nat} : ∀ n, HR R (fun i => d i + e i) n = HR R d n + HR R e n := by
  intro n
  induction n with
  | zero => rfl
  | succ n ih =>
    show HR R (fun i => d i + e i) n * R n + (d n + e n) = HR R d n * R n + d n + (HR R e n * R n + e n)
    rw [ih, Nat.add_mul]; omega
theorem HR_congr {R d d' : Nat → Nat} : ∀ n, (∀ i, i < n → d i = d' i) → HR R d n = HR R d' n := by
  intro n
  induction n with
  | zero => intro _; rfl
  | succ n ih =>
    intro h
    show HR R d n * R n + d n = HR R d' n * R n + d' n
    rw [ih (fun i hi => h i (by omega)), h n (by omega)]
theorem sale_both {m m' vR vC : Nat} {sh : Nat → Bool} {w : Nat → Nat → Nat} (hm : sbs m' m) (hR : BV (DD (oR m' sh w) 144) m' vR) (hC : BV (DD (oC m sh w) 144) m' vC) : ∃ S r, S < 256 ∧ sbs S m' ∧ Row (oC m sh w) 144 S r ∧ vR / MM = vl w S r ∧ UF m' m' - vR % MM = HR (RM m') (rr m' S r) 8 ∧ vC = vl w S r * 4294967296 + HR (fun _ => 16) (dK m sh w S r) 8 := by
  obtain ⟨⟨S, s1, s2, s3⟩, s4⟩ := hR
  obtain ⟨r, r1, r2⟩ := DD_att 144 S vR s3
  obtain ⟨k1, k2⟩ := sale_best hm s1 s2 r1 (fun S' r' g1 g2 g3 => by
    obtain ⟨v, v1, v2⟩ := DD_bnd 144 S' r' g1 g3
    have := s4 S' v g1 g2 v1
    rw [r2]; omega)
  obtain ⟨e1, e2⟩ := row_bd s2 r1 r2
  refine ⟨S, r, s1, s2, k1, e1, ?_, ?_⟩
  · rw [e2, UF_HR]
    have : HR (RM m') (dF m') 8 = HR (RM m') (rr m' S r) 8 + HR (RM m') (dR S r) 8 := by
      rw [← HR_add]
      refine HR_congr 8 (fun i hi => ?_)
      show dF m' i = rr m' S r i + dR S r i
      unfold dF rr dR
      cases c : S.testBit i with
      | true =>
        have := (r1.1 i hi c).1
        rw [if_pos (s2 i c), if_pos (s2 i c), if_pos rfl, if_pos rfl]; omega
      | false =>
        simp only [if_neg (show ¬ (false = true) by decide)]; split <;> rfl
    omega
  · obtain ⟨⟨S', t1, t2, t3⟩, t4⟩ := hC
    obtain ⟨r', u1, u2⟩ := DD_att 144 S' vC t3
    have a1 := k2 S' r' t1 t2 u1
    obtain ⟨v, v1, v2⟩ := DD_bnd 144 S r s1 k1
    have a2 := t4 S v s1 s2 v1
    rw [← tot_oC k1]
    omega
theorem p16 : ∀ b, b < 8 → 4294967296 = 16 ^ b * 16 * PR (fun _ => 16) (7 - b) ∧ PR (fun _ => 16) (7 - b) = 2 ^ (4 * (7 - b)) := by decide
theorem shD : ∀ b, b < 8 → (((4 * (7 - nI b)).toInt64 &&& 63).toBitVec.smod 64).toNat = 4 * (7 - b) := by decide +kernel
theorem l_shr {a d : Nat} {D : Int64} (hD : (D.toBitVec.smod 64).toNat = d) (h : a < 2 ^ 62) : lN a >>> D = lN (a / 2 ^ d) := by
  have h1 : (BitVec.ofNat 64 a).toNat = a := by rw [BitVec.toNat_ofNat]; exact Nat.mod_eq_of_lt (by omega)
  have hm : (BitVec.ofNat 64 a).msb = false := by rw [BitVec.msb_eq_false_iff_two_mul_lt, h1]; omega
  have h2 : a / 2 ^ d ≤ a := Nat.div_le_self _ _
  have h3 : (BitVec.ofNat 64 a).sshiftRight (D.toBitVec.smod 64).toNat = BitVec.ofNat 64 (a / 2 ^ d) := by
    rw [hD, BitVec.sshiftRight_eq_of_msb_false hm]
    apply BitVec.eq_of_toNat_eq
    rw [BitVec.toNat_ushiftRight, h1, BitVec.toNat_ofNat, Nat.shiftRight_eq_div_pow, Nat.mod_eq_of_lt (by omega)]
  exact Int64.toBitVec_inj.mp h3
theorem cls_dig {m S a b : Nat} {sh : Nat → Bool} {w : Nat → Nat → Nat} {r : Nat → Nat} (hb : b < 8) (ha : a ≤ 7992) : (((lN (a * 4294967296 + HR (fun _ => 16) (dK m sh w S r) 8)) >>> ((4 * (7 - nI b)).toInt64 &&& 63)).toInt32) &&& 15 = nI (dK m sh w S r b) := by
  have hl := HRK_lt (m := m) (sh := sh) (w := w) (S := S) (r := r)
  have hd := HR_dig (R := fun _ => 16) (d := dK m sh w S r) (fun i _ => dK_lt i) hb
  obtain ⟨q1, q2⟩ := p16 b hb
  generalize HR (fun _ => 16) (dK m sh w S r) 8 = E at hl hd
  rw [l_shr (shD b hb) (by omega), lN_i, show (15 : Int32) = nI (2 ^ 4 - 1) from rfl, fa_and, Nat.and_two_pow_sub_one_eq_mod, ← q2, Nat.add_comm, q1, ← Nat.mul_assoc, Nat.add_mul_div_right _ _ (PR_pos (fun _ _ => by decide) _ (by omega)), ← Nat.mul_assoc, show (2 : Nat) ^ 4 = 16 from rfl, Nat.add_mul_mod_self_right]
  exact congrArg nI hd
theorem cls_sum {a E : Nat} (hE : E < 4294967296) (ha : a ≤ 7992) : (((lN (a * 4294967296 + E)) >>> ((32 : Int32).toInt64 &&& 63)).toInt32) = nI a := by
  rw [l_shr (d := 32) (by decide) (by omega), lN_i]
  congr 1
  omega
theorem ref_dig {m S b : Nat} {r : Nat → Nat} (hb : b < 8) (hbm : m.testBit b = true) (hr : ∀ i, i < 8 → S.testBit i = true → r i < 144) : ((lN (HR (RM m) (rr m S r) 8) / lN (PR (RM m) (7 - b))) - (lN (HR (RM m) (rr m S r) 8) / lN (PR (RM m) (7 - b))) / 145 * 145).toInt32 = nI (rr m S r b) := by
  have hlt : ∀ i, i < 8 → rr m S r i < RM m i := fun i hi => by
    unfold rr RM
    by_cases c : m.testBit i = true
    · rw [if_pos c, if_pos c]
      by_cases d : S.testBit i = true
      · rw [if_pos d]; have := hr i hi d; omega
      · rw [if_neg d]; omega
    · rw [if_neg c, if_neg c]; omega
  have hd := HR_dig hlt hb
  have hl := HR_lt (R := RM m) (B := 145) (fun i _ => (RM_le m i).1) hlt 8 (Nat.le_refl 8)
  rw [show (145 : Nat) ^ 8 = 195408755062890625 by decide] at hl
  have hu := PRM_le (m := m) (b := b)
  rw [show RM m b = 145 by unfold RM; rw [if_pos hbm]] at hd
  generalize HR (RM m) (rr m S r) 8 = K at hd hl
  rw [pk_lDiv (by omega) hu.2 (by omega)]
  have hq : K / PR (RM m) (7 - b) ≤ K := Nat.div_le_self _ _
  rw [show (145 : Int64) = lN 145 from rfl, pk_lRem (by omega) (by decide) (by decide), lN_i, hd]
