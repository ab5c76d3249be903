-- ===== how many bits are set, by both sides =====
def pcR (s : Nat) : Nat → Nat
  | 0 => 0
  | i + 1 => pcR s i + s / 2 ^ i % 2
def bc1 (s : Nat) : Nat := s - ((s / 2) &&& 1431655765)
def bc2 (s : Nat) : Nat := (bc1 s &&& 858993459) + ((bc1 s / 4) &&& 858993459)
def bc3 (s : Nat) : Nat := (bc2 s + bc2 s / 16) &&& 252645135
def bc4 (s : Nat) : Nat := bc3 s + bc3 s / 256
def bc5 (s : Nat) : Nat := bc4 s + bc4 s / 65536
/-- 'and' by bytes -/
theorem and256 {x y u v : Nat} (hy : y < 256) (hv : v < 256) : (256 * x + y) &&& (256 * u + v) = 256 * (x &&& u) + (y &&& v) := by
  have h1 : ((256 * x + y) &&& (256 * u + v)) / 2 ^ 8 = x &&& u := by
    rw [Nat.and_div_two_pow, show (256 * x + y) / 2 ^ 8 = x by omega, show (256 * u + v) / 2 ^ 8 = u by omega]
  have h2 : ((256 * x + y) &&& (256 * u + v)) % 2 ^ 8 = y &&& v := by
    rw [Nat.and_mod_two_pow, show (256 * x + y) % 2 ^ 8 = y by omega, show (256 * u + v) % 2 ^ 8 = v by omega]
  omega
def b1 (x : Nat) : Nat := x - ((x / 2) &&& 85)
def b2 (x : Nat) : Nat := (x &&& 51) + ((x / 4) &&& 51)
theorem byte1 : ∀ l : Fin 256, ∀ e : Fin 2, (128 * e.val + l.val / 2) &&& 85 = (l.val / 2) &&& 85 := by decide +kernel
theorem byte2 : ∀ h : Fin 256, ((h.val / 2) &&& 5592405) = (h.val / 2) &&& 85 ∧ (h.val &&& 3355443) = h.val &&& 51 ∧ ((h.val / 4) &&& 3355443) = (h.val / 4) &&& 51 := by decide +kernel
theorem byte3 : ∀ q : Fin 256, ∀ e : Fin 4, (64 * e.val + q.val / 4) &&& 51 = (q.val / 4) &&& 51 := by decide +kernel
theorem byte4 : ∀ h : Fin 256, b2 (b1 h.val) % 16 < 5 ∧ b2 (b1 h.val) ≤ 68 ∧ ((b2 (b1 h.val) + b2 (b1 h.val) / 16) &&& 986895) = pcR h.val 8 ∧ pcR h.val 8 ≤ 8 := by decide +kernel
theorem byte5 : ∀ l : Fin 256, ∀ e : Fin 5, (b2 (b1 l.val) + b2 (b1 l.val) / 16 + 16 * e.val) &&& 15 = pcR l.val 8 := by decide +kernel
theorem pcR16 {h l : Nat} (hl : l < 256) (hh : h < 256) : pcR (256 * h + l) 16 = pcR l 8 + pcR h 8 := by
  simp only [pcR]
  have e0 : (256 * h + l) / 2 ^ 0 % 2 = l / 2 ^ 0 % 2 := by omega
  have e1 : (256 * h + l) / 2 ^ 1 % 2 = l / 2 ^ 1 % 2 := by omega
  have e2 : (256 * h + l) / 2 ^ 2 % 2 = l / 2 ^ 2 % 2 := by omega
  have e3 : (256 * h + l) / 2 ^ 3 % 2 = l / 2 ^ 3 % 2 := by omega
  have e4 : (256 * h + l) / 2 ^ 4 % 2 = l / 2 ^ 4 % 2 := by omega
  have e5 : (256 * h + l) / 2 ^ 5 % 2 = l / 2 ^ 5 % 2 := by omega
  have e6 : (256 * h + l) / 2 ^ 6 % 2 = l / 2 ^ 6 % 2 := by omega
  have e7 : (256 * h + l) / 2 ^ 7 % 2 = l / 2 ^ 7 % 2 := by omega
  have f0 : (256 * h + l) / 2 ^ 8 % 2 = h / 2 ^ 0 % 2 := by omega
  have f1 : (256 * h + l) / 2 ^ 9 % 2 = h / 2 ^ 1 % 2 := by omega
  have f2 : (256 * h + l) / 2 ^ 10 % 2 = h / 2 ^ 2 % 2 := by omega
  have f3 : (256 * h + l) / 2 ^ 11 % 2 = h / 2 ^ 3 % 2 := by omega
  have f4 : (256 * h + l) / 2 ^ 12 % 2 = h / 2 ^ 4 % 2 := by omega
  have f5 : (256 * h + l) / 2 ^ 13 % 2 = h / 2 ^ 5 % 2 := by omega
  have f6 : (256 * h + l) / 2 ^ 14 % 2 = h / 2 ^ 6 % 2 := by omega
  have f7 : (256 * h + l) / 2 ^ 15 % 2 = h / 2 ^ 7 % 2 := by omega
  rw [e0, e1, e2, e3, e4, e5, e6, e7, f0, f1, f2, f3, f4, f5, f6, f7]
  omega
theorem b1_le (x : Nat) : b1 x ≤ x := Nat.sub_le _ _
theorem bc_ok {s : Nat} (h : s < 65536) : bc5 s &&& 63 = pcR s 16 := by
  obtain ⟨x, y, hx, hy, rfl⟩ : ∃ x y : Nat, x < 256 ∧ y < 256 ∧ s = 256 * x + y := ⟨s / 256, s % 256, by omega, by omega, by omega⟩
  have p1 := byte1 ⟨y, hy⟩ ⟨x % 2, by omega⟩
  have p2 := byte2 ⟨x, hx⟩
  simp only at p1 p2
  have c1 : bc1 (256 * x + y) = 256 * b1 x + b1 y := by
    unfold bc1 b1
    rw [show (256 * x + y) / 2 = 256 * (x / 2) + (128 * (x % 2) + y / 2) by omega, show (1431655765 : Nat) = 256 * 5592405 + 85 from rfl, and256 (by omega) (by decide), p1, p2.1]
    have a1 : (x / 2) &&& 85 ≤ x / 2 := Nat.and_le_left
    have a2 : (y / 2) &&& 85 ≤ y / 2 := Nat.and_le_left
    omega
  have l1 := b1_le x
  have l2 := b1_le y
  have p3 := byte3 ⟨b1 y, by omega⟩ ⟨b1 x % 4, by omega⟩
  have p4 := byte2 ⟨b1 x, by omega⟩
  simp only at p3 p4
  have c2 : bc2 (256 * x + y) = 256 * b2 (b1 x) + b2 (b1 y) := by
    unfold bc2
    rw [c1, show (256 * b1 x + b1 y) / 4 = 256 * (b1 x / 4) + (64 * (b1 x % 4) + b1 y / 4) by omega, show (858993459 : Nat) = 256 * 3355443 + 51 from rfl, and256 (by omega) (by decide), and256 (by omega) (by decide), p3, p4.2.1, p4.2.2]
    unfold b2
    omega
  have q1 := byte4 ⟨x, hx⟩
  have q2 := byte4 ⟨y, hy⟩
  simp only at q1 q2
  have p5 := byte5 ⟨y, hy⟩ ⟨b2 (b1 x) % 16, q1.1⟩
  simp only at p5
  have c3 : bc3 (256 * x + y) = 256 * pcR x 8 + pcR y 8 := by
    unfold bc3
    rw [c2, show 256 * b2 (b1 x) + b2 (b1 y) + (256 * b2 (b1 x) + b2 (b1 y)) / 16 = 256 * (b2 (b1 x) + b2 (b1 x) / 16) + (b2 (b1 y) + b2 (b1 y) / 16 + 16 * (b2 (b1 x) % 16)) by omega, show (252645135 : Nat) = 256 * 986895 + 15 from rfl, and256 (by omega) (by decide), p5, q1.2.2.1]
  have c4 : bc4 (256 * x + y) = 256 * pcR x 8 + (pcR y 8 + pcR x 8) := by
    unfold bc4
    rw [c3]
    omega
  have c5 : bc5 (256 * x + y) = 256 * pcR x 8 + (pcR y 8 + pcR x 8) := by
    unfold bc5
    rw [c4]
    omega
  rw [c5, show (63 : Nat) = 2 ^ 6 - 1 from rfl, Nat.and_two_pow_sub_one_eq_mod, pcR16 hy hx]
  omega
theorem and_nI (a : Nat) {m : Nat} : nI a &&& nI m = nI (a &&& m) := fa_and a m
theorem bitCount_eq {s : Nat} (h : s < 65536) : f_JI_bitCount_0f7a4 (nI s) = some (nI (pcR s 16)) := by
  unfold f_JI_bitCount_0f7a4
  simp only [letv]
  have l1 : bc1 s ≤ s := Nat.sub_le _ _
  have l2 : bc2 s ≤ 858993459 + 858993459 := Nat.add_le_add Nat.and_le_right Nat.and_le_right
  have l3 : bc3 s ≤ 252645135 := Nat.and_le_right
  have l4 : bc4 s ≤ 252645135 + 252645135 := by unfold bc4; omega
  have a1 : nI s - (((nI s).toUInt32 >>> ((1 : Int32).toUInt32 &&& Int32.toUInt32 31)).toInt32 &&& 1431655765) = nI (bc1 s) := by
    rw [pk_ushrN (by omega) 1 1 (by decide)]
    show nI s - (nI (s / 2 ^ 1) &&& nI 1431655765) = _
    rw [and_nI, pk_sub (Nat.le_trans Nat.and_le_left (by omega))]
    rfl
  rw [a1]
  have a2 : (nI (bc1 s) &&& 858993459) + (((nI (bc1 s)).toUInt32 >>> ((2 : Int32).toUInt32 &&& Int32.toUInt32 31)).toInt32 &&& 858993459) = nI (bc2 s) := by
    rw [pk_ushrN (by omega) 2 2 (by decide)]
    show (nI (bc1 s) &&& nI 858993459) + (nI (bc1 s / 2 ^ 2) &&& nI 858993459) = _
    rw [and_nI, and_nI, nI_add]
    rfl
  rw [a2]
  have a3 : (nI (bc2 s) + ((nI (bc2 s)).toUInt32 >>> ((4 : Int32).toUInt32 &&& Int32.toUInt32 31)).toInt32) &&& 252645135 = nI (bc3 s) := by
    rw [pk_ushrN (by omega) 4 4 (by decide), nI_add]
    show nI (bc2 s + bc2 s / 2 ^ 4) &&& nI 252645135 = _
    rw [and_nI]
    rfl
  rw [a3]
  have a4 : nI (bc3 s) + ((nI (bc3 s)).toUInt32 >>> ((8 : Int32).toUInt32 &&& Int32.toUInt32 31)).toInt32 = nI (bc4 s) := by
    rw [pk_ushrN (by omega) 8 8 (by decide), nI_add]
    rfl
  rw [a4]
  have a5 : nI (bc4 s) + ((nI (bc4 s)).toUInt32 >>> ((16 : Int32).toUInt32 &&& Int32.toUInt32 31)).toInt32 = nI (bc5 s) := by
    rw [pk_ushrN (by omega) 16 16 (by decide), nI_add]
    rfl
  rw [a5]
  show some (nI (bc5 s) &&& nI 63) = _
  rw [and_nI, bc_ok h]
theorem shr_amt : ∀ i, i < 32 → ((nI i &&& 31).toBitVec.smod 32).toNat = i := by decide +kernel
theorem bit_at {s : Nat} (hs : s < 2 ^ 31) {i : Nat} (hi : i < 32) : (nI s >>> (nI i &&& 31)) &&& 1 = nI (s / 2 ^ i % 2) := by
  rw [pk_shrN hs _ i (shr_amt i hi)]
  show nI (s / 2 ^ i) &&& nI (2 ^ 1 - 1) = _
  rw [and_nI, Nat.and_two_pow_sub_one_eq_mod]
theorem bits_loop {N s : Nat} (hs : s < 65536) : ∀ (m k i : Nat), i + m = 16 → m < k → L_Mo_bits_l4 N (nI s) k (nI (pcR s i)) (nI i) = some (nI (pcR s 16)) := by
  intro m
  induction m with
  | zero =>
    intro k i h1 h2
    obtain ⟨k, rfl⟩ : ∃ z, k = z + 1 := ⟨k - 1, by omega⟩
    show B_Mo_bits_l4 N _ _ _ _ = _
    unfold B_Mo_bits_l4
    rw [if_pos (show (16 : Int32) ≤ nI i from nI_le (a := 16) (by omega) (by omega)), show i = 16 by omega]
  | succ m ih =>
    intro k i h1 h2
    obtain ⟨k, rfl⟩ : ∃ z, k = z + 1 := ⟨k - 1, by omega⟩
    show B_Mo_bits_l4 N _ _ _ _ = _
    unfold B_Mo_bits_l4
    rw [if_neg (show ¬ (16 : Int32) ≤ nI i from nI_ge (b := 16) (by omega) (by omega))]
    simp only [letv]
    rw [bit_at (by omega) (by omega), nI_add, nI_1]
    exact ih k (i + 1) (by omega) (by omega)
theorem mo_bits {N s : Nat} (hN : 100 < N) (hs : s < 65536) : f_Mo_bits N (nI s) = some (nI (pcR s 16)) := bits_loop hs 16 N 0 (by omega) (by omega)
