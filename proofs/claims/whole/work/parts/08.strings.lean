-- ===== the String constants of the reader =====
def stb (i j : Nat) : Int32 := (strByt.getD i []).getD j 0
section VS
variable {B : BX} {Z : ZX} {Y : YX} {μ : MI} {d : Nat} {Q : State → Prop} {kc ks n : Nat} {σ : Mem} {pc : Nat} {lv : List (Nat × Value)} {st : List Value}
theorem low_kept {s : State} {H : Heap} (h1 : ∀ q : Nat, q < bb B → s.heap[q]? = (bH B)[q]?) (h2 : ∀ q : Nat, q < bb B → H[q]? = (bH B)[q]?) : ∀ a : Nat, a < s.heap.size → ¬ (fun q => bb B ≤ q) a → H[a]? = s.heap[a]? := fun a _ ha => by rw [h1 a (Nat.not_le.mp ha), h2 a (Nat.not_le.mp ha)]
theorem V.ldcS (i : Nat) {ix : Nat} (hi : i < 5) (hx : strIx.getD i 0 = ix) (hc : μ.1.cls = "ShadeTown$LawReader") (hd : decode μ.2.1 pc = .ok (.ldc ix, 2)) (K : V B Y μ d Q kc ks n σ (pc + 2) lv (.ref (bK B i) :: st)) : V B Y μ d Q kc ks n σ pc lv st := by
  obtain ⟨p, e, R, s, m, args, below, meth, c⟩ := Y
  intro hO H locs ls hH hL hl
  have hR := hO.2.2.2.2.2.2.2.1.2.2.1 i hi
  rw [hx] at hR
  exact va_ldcS hO.1 hO.2.1 (by rw [← hc]; exact hO.2.2.2.2.1) hR hd (K hO H locs ls hH hL hl)
theorem V.sget {i ix : Nat} {nm ds : String} {v : Value} (hE : ∀ U : State, Kn B U → va_OF "java/lang/String" nm ds v (bK B i) (fun q => bb B ≤ q) U U.heap) (hw : Cond.fieldLink μ.1.cls ix "java/lang/String" nm ds ∈ tblG) (hd : decode μ.2.1 pc = .ok (.getfield ix, 3)) (K : V B Y μ d Q kc ks n σ (pc + 3) lv (v :: st)) : V B Y μ d Q kc ks n σ pc lv (.ref (bK B i) :: st) := by
  obtain ⟨p, e, R, s, m, args, below, meth, c⟩ := Y
  intro hO H locs ls hH hL hl
  obtain ⟨cf, k, fi, f, cell, h1, h2, h3, h4, h5, h6⟩ := (hE s hO.2.2.2.2.2.2.2.1).kept (low_kept hO.2.2.2.2.2.2.2.2.2.2.1 hH.2.1)
  exact W.getf hO.1 hO.2.1 hO.2.2.2.2.1 (hO.2.2.2.2.2.1 _ hw) h1 h2 h3 h4 (v := v) h5 rfl rfl hd (K hO H locs ls hH hL hl)
theorem V.scod {i ix : Nat} (hi : i < 5) (hw : Cond.fieldLink μ.1.cls ix "java/lang/String" "coder" "B" ∈ tblG) (hd : decode μ.2.1 pc = .ok (.getfield ix, 3)) (K : V B Y μ d Q kc ks n σ (pc + 3) lv (.int 0 :: st)) : V B Y μ d Q kc ks n σ pc lv (.ref (bK B i) :: st) :=
  V.sget (fun U h => (h.2.2.2.1.1 i hi).2.1) hw hd K
theorem V.sval {i ix : Nat} (hi : i < 5) (hw : Cond.fieldLink μ.1.cls ix "java/lang/String" "value" "[B" ∈ tblG) (hd : decode μ.2.1 pc = .ok (.getfield ix, 3)) (K : V B Y μ d Q kc ks n σ (pc + 3) lv (.ref (bV B i) :: st)) : V B Y μ d Q kc ks n σ pc lv (.ref (bK B i) :: st) :=
  V.sget (fun U h => (h.2.2.2.1.1 i hi).2.2.1) hw hd K
theorem V.slen {i : Nat} {x : Int32} (hi : i < 5) (hx : Int32.ofNat (strLen.getD i 0) = x) (hd : decode μ.2.1 pc = .ok (.arraylength, 1)) (K : V B Y μ d Q kc ks n σ (pc + 1) lv (.int x :: st)) : V B Y μ d Q kc ks n σ pc lv (.ref (bV B i) :: st) := by
  obtain ⟨p, e, R, s, m, args, below, meth, c⟩ := Y
  intro hO H locs ls hH hL hl
  obtain ⟨cell, h1, h2, h3, h4, h5, h6⟩ := ((hO.2.2.2.2.2.2.2.1.2.2.2.1.1 i hi).2.2.2).kept (low_kept hO.2.2.2.2.2.2.2.2.2.2.1 hH.2.1)
  exact W.alen (n := x) hO.1 hO.2.1 h1 h2 (by rw [h5, hx]) rfl rfl hd (K hO H locs ls hH hL hl)
theorem V.sld {i : Nat} {x : Int32} {j : Nat} (hi : i < 5) (hx : vp_in x (strLen.getD i 0)) (hj : x.toNatClampNeg = j) (hd : decode μ.2.1 pc = .ok (.baload, 1)) (K : V B Y μ d Q kc ks n σ (pc + 1) lv (.int (stb i j) :: st)) : V B Y μ d Q kc ks n σ pc lv (.int x :: .ref (bV B i) :: st) := by
  obtain ⟨p, e, R, s, m, args, below, meth, c⟩ := Y
  intro hO H locs ls hH hL hl
  subst hj
  obtain ⟨cell, h1, h2, h3, h4, h5, h6, h7⟩ := ((hO.2.2.2.2.2.2.2.1.2.2.2.1.1 i hi).2.2.2).kept (low_kept hO.2.2.2.2.2.2.2.2.2.2.1 hH.2.1)
  have hlt : x.toNatClampNeg < strLen.getD i 0 := Nat.not_le.mp fun q => hx (Or.inr q)
  exact W.bald (v := .int (stb i x.toNatClampNeg)) hO.1 hO.2.1 h1 h2 h3 (fun z => by
    rcases z with z | z
    · exact hx (Or.inl z)
    · omega) (h6 _ hlt) rfl rfl hd (K hO H locs ls hH hL hl)
theorem V.gcs {ix : Nat} (hw : Cond.fieldLink μ.1.cls ix "java/lang/String" "COMPACT_STRINGS" "Z" ∈ tblG) (hd : decode μ.2.1 pc = .ok (.getstatic ix, 3)) (K : V B Y μ d Q kc ks n σ (pc + 3) lv (.int 1 :: st)) : V B Y μ d Q kc ks n σ pc lv st := by
  obtain ⟨p, e, R, s, m, args, below, meth, c⟩ := Y
  intro hO H locs ls hH hL hl
  obtain ⟨cf, kf, fi, f, a, cell, h1, h2, h3, h4, h5, h6, h7, h8⟩ := (hO.2.2.2.2.2.2.2.1.2.2.2.2).kept (low_kept hO.2.2.2.2.2.2.2.2.2.2.1 hH.2.1)
  exact W.gets hO.1 hO.2.1 hO.2.2.2.2.1 (hO.2.2.2.2.2.1 _ hw) h1 h2 h3 h4 h5 (fun e => by rw [e] at h6; cases h6) h7 rfl hd (K hO H locs ls hH hL hl)
/-- a call on one of the String constants -/
theorem V.uI {μ' : MI} {np ix d' i : Nat} {as st0 : List Value} {r : Int32} {σ' : Mem} (hi : i < 5) (hM : CI Z d' μ' (.ref (bK (mkB Z) i) :: as) σ r σ') (hm : MOk μ' np ∧ IOk μ') (hc : μ'.1.cls = "java/lang/String") (hl : Cond.methodLink μ.1.cls ix μ'.1 ∈ tblG) (hdd : d' + 1 ≤ d) (hn : as.length = np) (hs : st0 = as.reverse ++ .ref (bK (mkB Z) i) :: st) (hW : (st.map fun v => v.category).sum ≤ 8) (hd : decode μ.2.1 pc = .ok (.invokevirtual ix, 3))
    (K : V (mkB Z) Y μ d Q 0 0 nC σ' (pc + 3) lv (.int r :: st)) : V (mkB Z) Y μ d Q 0 0 nC σ pc lv st0 := by
  obtain ⟨p, e, R, s, m, args, below, meth, c⟩ := Y
  intro hO H locs ls hH hL hl'
  obtain ⟨cell, h1, h2, h3, -⟩ := ((hO.2.2.2.2.2.2.2.1.2.2.2.1.1 i hi).1).kept (low_kept hO.2.2.2.2.2.2.2.2.2.2.1 hH.2.1)
  have hrun := va_runV (cells := 0) (slots := 0) (locs := locs) (e := e) (below := below) (meth := meth) (g := F0 m pc ls st0) (rest := st) (As := as) (b := bK (mkB Z) i) (H := H) (C := μ'.1.cls) (Ts := tblG) ⟨hO.1, hO.2.1, hO.2.2.1, hO.2.2.2.2.1, hO.2.2.2.2.2.1⟩ hM ⟨callB_ok hO hm.1 hl hdd, hO.2.2.2.2.2.1 _ hm.2.1, hO.2.2.2.2.2.1 _ hm.2.2⟩
    ⟨blind _, ⟨cell, h1, h2, by rw [hc]; exact h3⟩, fun U hU hW' => ⟨rfl, by rw [hU]; exact hH, hO.2.2.2.2.2.2.2.1.moved hW' hU hO.2.2.2.2.2.2.2.2.2.2.1 hH.2.1⟩⟩ rfl hn hl'.1 hs (lv_room hW) hd ⟨Nat.zero_le _, Nat.zero_le _⟩
  exact V.back hrun hO hL hl' (fun v t h => by obtain ⟨rfl, rfl⟩ := h; exact K)
end VS
