-- ===== switches, wide constants, copies, booleans, moving references =====
/-- the ints of one row taken over into another -/
def cpI (σ : Mem) (k j sp dp n : Nat) : Mem := rI σ j (va_cpy (mI σ k) (mI σ j) sp dp n)
theorem zput_e {v : Int32} (h : (decide (v &&& 1 = v) && decide (v = 0 ∨ v = 1)) = true) : narrow .boolean (.int v) = .int v ∧ fits .boolean (.int v) = true := by
  simp only [Bool.and_eq_true, decide_eq_true_eq] at h
  refine ⟨congrArg Value.int h.1, ?_⟩
  rcases h.2 with rfl | rfl <;> rfl
/-- the two rows that the walks exchange -/
def drf (σ : Mem) (k j : Nat) : Option Nat := if mR σ k j = 46 then some 45 else if mR σ k j = 47 then some 46 else none
theorem drf_e {σ : Mem} {k j r : Nat} (h : drf σ k j = some r) : mR σ k j = r + 1 ∧ r < nC ∧ lay1 r = .inl (.int, 144) := by
  unfold drf at h
  by_cases h1 : mR σ k j = 46
  · rw [if_pos h1] at h; cases h; exact ⟨h1, by decide, rfl⟩
  · rw [if_neg h1] at h
    by_cases h2 : mR σ k j = 47
    · rw [if_pos h2] at h; cases h; exact ⟨h2, by decide, rfl⟩
    · rw [if_neg h2] at h; cases h
theorem ofInt_toInt (x : Int32) : Int32.ofInt x.toInt = x := Int32.toInt_inj.mp (by
  have h := Int32.toInt_lt x
  have h2 := Int32.le_toInt x
  rw [Int32.toInt_ofInt_of_le (by omega) (by omega)])
section VM
variable {B : BX} {Z : ZX} {Y : YX} {μ : MI} {d : Nat} {Q : State → Prop} {kc ks n : Nat} {σ : Mem} {pc : Nat} {lv : List (Nat × Value)} {st : List Value}
theorem V.ldcw {ix : Nat} {v : Int32} (hw : Cond.constant μ.1.cls ix v ∈ tblG) (hd : decode μ.2.1 pc = .ok (.ldc_w ix, 3)) (K : V B Y μ d Q kc ks n σ (pc + 3) lv (.int v :: st)) : V B Y μ d Q kc ks n σ pc lv st := by
  obtain ⟨p, e, R, s, m, args, below, meth, c⟩ := Y
  intro hO H locs ls hH hL hl
  exact lv_ldcw hO.1 hO.2.1 hO.2.2.2.2.1 (hO.2.2.2.2.2.1 _ hw) hd (K hO H locs ls hH hL hl)
theorem V.tin {dflt lo hi : Int} {offs : Array Int} {len : Nat} {x c : Int32} {off : Int} {tgt : Nat} (hd : decode μ.2.1 pc = .ok (.tableswitch dflt lo hi offs, len)) (hx : x = c) (h1 : ¬ c.toInt < lo) (h2 : ¬ hi < c.toInt) (ho : offs[(c.toInt - lo).toNat]? = some off) (ht : (pc : Int) + off = (tgt : Int)) (K : V B Y μ d Q kc ks n σ tgt lv st) : V B Y μ d Q kc ks n σ pc lv (.int x :: st) := by
  obtain ⟨p, e, R, s, m, args, below, meth, c⟩ := Y
  intro hO H locs ls hH hL hl
  subst hx
  exact lv_tableIn hO.1 hO.2.1 hd h1 h2 ho ht (K hO H locs ls hH hL hl)
theorem V.tdef {dflt lo hi : Int} {offs : Array Int} {len : Nat} {x : Int32} {tgt : Nat} (hd : decode μ.2.1 pc = .ok (.tableswitch dflt lo hi offs, len)) (h : ∀ i : Int, lo ≤ i → i ≤ hi → ¬ x = Int32.ofInt i ∨ offs[(i - lo).toNat]? = some dflt) (ht : (pc : Int) + dflt = (tgt : Int)) (K : V B Y μ d Q kc ks n σ tgt lv st) : V B Y μ d Q kc ks n σ pc lv (.int x :: st) := by
  obtain ⟨p, e, R, s, m, args, below, meth, c⟩ := Y
  intro hO H locs ls hH hL hl
  by_cases h1 : x.toInt < lo ∨ hi < x.toInt
  · exact lv_tableOut hO.1 hO.2.1 hd h1 ht (K hO H locs ls hH hL hl)
  · have h2 : ¬ x.toInt < lo := fun z => h1 (Or.inl z)
    have h3 : ¬ hi < x.toInt := fun z => h1 (Or.inr z)
    rcases h x.toInt (by omega) (by omega) with z | z
    · exact absurd (ofInt_toInt x).symm z
    · exact lv_tableIn hO.1 hO.2.1 hd h2 h3 z ht (K hO H locs ls hH hL hl)
theorem V.lsw {dflt : Int} {ps : Array (Int × Int)} {len : Nat} {x : Int32} {off : Int} {tgt : Nat} (hd : decode μ.2.1 pc = .ok (.lookupswitch dflt ps, len)) (hp : (ps.toList.zip (ps.toList.drop 1)).all (fun (a, next) => a.1 < next.1) = true) (ho : Op.lookupswitch.offset ps.toList dflt x.toInt = off) (ht : (pc : Int) + off = (tgt : Int)) (K : V B Y μ d Q kc ks n σ tgt lv st) : V B Y μ d Q kc ks n σ pc lv (.int x :: st) := by
  obtain ⟨p, e, R, s, m, args, below, meth, c⟩ := Y
  intro hO H locs ls hH hL hl
  exact lv_lookup hO.1 hO.2.1 hd hp ho ht (K hO H locs ls hH hL hl)
def ac_ok : Cond.native arraycopyName ∈ tblG ∧ Cond.static arraycopyName ∈ tblG ∧ Cond.initialized "java/lang/System" ∈ tblG := ⟨inG (by decide +kernel) rfl, inG (by decide +kernel) rfl, inG (by decide +kernel) rfl⟩
theorem V.acopy {k j n0 n1 : Nat} {sp dp l : Int32} {sp' dp' l' : Nat} {ix : Nat} (hk : k < nC) (hj : j < nC) (hy : lay1 k = .inl (.int, n0)) (hz : lay1 j = .inl (.int, n1)) (h1 : ¬ sp < 0 ∧ ¬ dp < 0 ∧ ¬ l < 0) (e1 : sp.toNatClampNeg = sp') (e2 : dp.toNatClampNeg = dp') (e3 : l.toNatClampNeg = l') (h4 : sp' + l' ≤ n0 ∧ dp' + l' ≤ n1) (hl : Cond.methodLink μ.1.cls ix arraycopyName ∈ tblG) (hW : (st.map fun v => v.category).sum ≤ 8) (hdd : 1 ≤ d) (hd : decode μ.2.1 pc = .ok (.invokestatic ix, 3))
    (K : V (mkB Z) Y μ d Q 0 0 nC (cpI σ k j sp' dp' l') (pc + 3) lv st) : V (mkB Z) Y μ d Q 0 0 nC σ pc lv (.int l :: .int dp :: rf Z j :: .int sp :: rf Z k :: st) := by
  obtain ⟨p, e, R, s, m, args, below, meth, c⟩ := Y
  intro hO H locs ls hH hL hlv
  subst e1; subst e2; subst e3
  obtain ⟨g1, g2, g3⟩ := h1
  have nn : ∀ z : Int32, ¬ z < 0 → z.toInt = (z.toNatClampNeg : Int) := by
    intro z hz
    have hz0 : (0 : Int) ≤ z.toInt := by simpa using Int32.le_iff_toInt_le.mp (Int32.not_lt.mp hz)
    show z.toInt = ((z.toInt.toNat : Nat) : Int)
    omega
  have hO' := hO
  obtain ⟨hx, hb, hml, hr, hown, hts, hlk, hKn, ⟨hfr, hlo⟩, -⟩ := hO
  intro T hT X
  have hc0 : H[ad (bb (mkB Z)) k]? = some (arrV (bT (mkB Z) .int) n0 (fun q => .int (mI σ k q))) := arr_at hH hk hy
  have hc1 : H[ad (bb (mkB Z)) j]? = some (arrV (bT (mkB Z) .int) n1 (fun q => .int (mI σ j q))) := arr_at hH hj hz
  obtain ⟨-, k0, hk0, cm0, hkk0⟩ := (hKn.1.2 0 _ rfl).1 n0 (fun q => .int (mI σ k q))
  obtain ⟨-, k1, hk1, cm1, hkk1⟩ := (hKn.1.2 0 _ rfl).1 n1 (fun q => .int (mI σ j q))
  obtain ⟨vm', X', step⟩ := X.arraycopy hx hown (hts _ hl) (hts _ ac_ok.1) (hts _ ac_ok.2.1) (hts _ ac_ok.2.2) (src := ad (bb (mkB Z)) k) (dst := ad (bb (mkB Z)) j) (cs := arrV (bT (mkB Z) .int) n0 (fun q => .int (mI σ k q))) (cd := arrV (bT (mkB Z) .int) n1 (fun q => .int (mI σ j q))) (srcPos := sp) (destPos := dp) (n := l) (by rw [hT]; exact hc0) (by rw [hT]; exact hc1)
    (fun _ h => by cases h) (fun _ h => by cases h) (fun h => by cases h) (fun h => by cases h) hk0 hk1 hkk0 hkk1 (by simp [refKind]) g1 g2 g3
    (by rw [nn sp g1, nn l g3, arrV_size]; omega)
    (by rw [nn dp g2, nn l g3, arrV_size]; omega)
    (fun vm₁ _ i hi => by
      have e : (arrV (bT (mkB Z) .int) n0 (fun q => .int (mI σ k q))).slots.getD (sp.toNatClampNeg + i) .null = .int (mI σ k (sp.toNatClampNeg + i)) := by
        rw [Array.getD_eq_getD_getElem?, arrV_read _ _ (by omega)]
        rfl
      rw [e]
      exact ⟨rfl, trivial⟩)
    (g := F0 m pc ls (.int l :: .int dp :: rf Z j :: .int sp :: rf Z k :: st)) rfl (by rw [hml, hlv.1]) (rest := st) rfl (by rw [hb]; exact hd) (Nat.le_trans hdd hfr) (by
      have : nativeFrameWords "java/lang/System" "arraycopy" 5 ≤ 30 := by decide
      show 2 * 0 + _ + _ ≤ _
      omega)
  have e1 : copied (arrV (bT (mkB Z) .int) n0 (fun q => .int (mI σ k q))) (arrV (bT (mkB Z) .int) n1 (fun q => .int (mI σ j q))) sp dp l = arrV (bT (mkB Z) .int) n1 (fun q => .int (va_cpy (mI σ k) (mI σ j) sp.toNatClampNeg dp.toNatClampNeg l.toNatClampNeg q)) := va_copied (fun z => .int z) (bT (mkB Z) .int) (bT (mkB Z) .int) (mI σ k) (mI σ j) h4.1
  rw [e1] at X' step
  have hlt : ad (bb (mkB Z)) j < H.size := (Array.getElem?_eq_some_iff.mp hc1).1
  obtain ⟨t, a1, b1⟩ := K hO' (H.setIfInBounds (ad (bb (mkB Z)) j) (arrV (bT (mkB Z) .int) n1 (fun q => .int (va_cpy (mI σ k) (mI σ j) sp.toNatClampNeg dp.toNatClampNeg l.toNatClampNeg q)))) _ ls (Hd.set (k := j) hH (by simp) (fun q hq => by simp [Array.getElem?_setIfInBounds, Ne.symm hq]) (by
      show va_at _ _ (_, cellR (mkB Z) (lay1 j) _ _ _) _
      rw [hz]
      show (H.setIfInBounds _ _)[_]? = some (vp_cell _ (n1, .inl (mI (rI σ j _) j)))
      rw [mI_rI]
      simp [Array.getElem?_setIfInBounds, hlt, vp_cell]) (fun a ha => by
      unfold cellV cpI
      rw [mI_rIn σ _ ha]
      rfl)) (fun q hq => by
      rcases List.mem_append.mp hq with h | h
      · exact hL q h
      · obtain ⟨z, -, hz⟩ := List.mem_map.mp h
        rw [← hz]
        exact Nat.le_add_right _ _) hlv _ (by rw [← hT]; rfl) X'
  exact ⟨t, step t a1, b1⟩
end VM
