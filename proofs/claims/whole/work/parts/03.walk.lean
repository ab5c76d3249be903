-- ===== the pure memory: ints, longs and moving references of cells by number and place =====
abbrev Mem : Type := (Nat → Nat → Int32) × (Nat → Nat → Int64) × (Nat → Nat → Nat)
def mI (σ : Mem) (k : Nat) : Nat → Int32 := σ.1 k
def mL (σ : Mem) (k : Nat) : Nat → Int64 := σ.2.1 k
def mR (σ : Mem) (k : Nat) : Nat → Nat := σ.2.2 k
def up1 {α : Type} (f : Nat → α) (j : Nat) (v : α) : Nat → α := fun i => if i = j then v else f i
def sI (σ : Mem) (k j : Nat) (v : Int32) : Mem := (up1 σ.1 k (up1 (σ.1 k) j v), σ.2)
def sL (σ : Mem) (k j : Nat) (v : Int64) : Mem := (σ.1, up1 σ.2.1 k (up1 (σ.2.1 k) j v), σ.2.2)
def sR (σ : Mem) (k j : Nat) (v : Nat) : Mem := (σ.1, σ.2.1, up1 σ.2.2 k (up1 (σ.2.2 k) j v))
/-- a whole row of ints -/
def rI (σ : Mem) (k : Nat) (f : Nat → Int32) : Mem := (up1 σ.1 k f, σ.2)
def rL (σ : Mem) (k : Nat) (f : Nat → Int64) : Mem := (σ.1, up1 σ.2.1 k f, σ.2.2)
theorem up1_s {α : Type} (f : Nat → α) (j : Nat) (v : α) : up1 f j v j = v := by simp [up1]
theorem up1_n {α : Type} (f : Nat → α) {i j : Nat} (v : α) (h : i ≠ j) : up1 f j v i = f i := by simp [up1, h]
theorem mI_sI (σ : Mem) (k j : Nat) (v : Int32) : mI (sI σ k j v) k = up1 (mI σ k) j v := up1_s _ _ _
theorem mI_sIn (σ : Mem) {a k : Nat} (j : Nat) (v : Int32) (h : a ≠ k) : mI (sI σ k j v) a = mI σ a := up1_n _ _ h
theorem mL_sL (σ : Mem) (k j : Nat) (v : Int64) : mL (sL σ k j v) k = up1 (mL σ k) j v := up1_s _ _ _
theorem mL_sLn (σ : Mem) {a k : Nat} (j : Nat) (v : Int64) (h : a ≠ k) : mL (sL σ k j v) a = mL σ a := up1_n _ _ h
theorem mR_sR (σ : Mem) (k j v : Nat) : mR (sR σ k j v) k = up1 (mR σ k) j v := up1_s _ _ _
theorem mR_sRn (σ : Mem) {a k : Nat} (j v : Nat) (h : a ≠ k) : mR (sR σ k j v) a = mR σ a := up1_n _ _ h
theorem mI_rI (σ : Mem) (k : Nat) (f : Nat → Int32) : mI (rI σ k f) k = f := up1_s _ _ _
theorem mI_rIn (σ : Mem) {a k : Nat} (f : Nat → Int32) (h : a ≠ k) : mI (rI σ k f) a = mI σ a := up1_n _ _ h
theorem mL_rL (σ : Mem) (k : Nat) (f : Nat → Int64) : mL (rL σ k f) k = f := up1_s _ _ _
theorem mL_rLn (σ : Mem) {a k : Nat} (f : Nat → Int64) (h : a ≠ k) : mL (rL σ k f) a = mL σ a := up1_n _ _ h
def ad (b k : Nat) : Nat := b + k
theorem ad_inj {b k j : Nat} (h : ad b k = ad b j) : k = j := by unfold ad at h; omega
-- ===== the layout: a cell is an array (its type, its length) or an object (its class's number, its fields' kinds: 0 an int, 1 a long, 2 a reference that moves, r + 3 the cell r for ever) =====
abbrev LY : Type := Nat → (FieldType × Nat) ⊕ (Nat × List Nat)
abbrev BX : Type := Launch × va_G × (FieldType → ClassId) × Nat × Heap × LY × (Nat → Nat) × (Nat → Nat)
abbrev bl (B : BX) : Launch := B.1
abbrev bD (B : BX) : va_G := B.2.1
abbrev bT (B : BX) : FieldType → ClassId := B.2.2.1
abbrev bb (B : BX) : Nat := B.2.2.2.1
abbrev bH (B : BX) : Heap := B.2.2.2.2.1
abbrev bY (B : BX) : LY := B.2.2.2.2.2.1
abbrev bK (B : BX) : Nat → Nat := B.2.2.2.2.2.2.1
abbrev bV (B : BX) : Nat → Nat := B.2.2.2.2.2.2.2
def fv (b : Nat) (fi : Nat → Int32) (fl : Nat → Int64) (fr : Nat → Nat) (j : Nat) (t : Nat) : Value := match t with
  | 0 => .int (fi j)
  | 1 => .long (fl j)
  | 2 => (match fr j with
    | 0 => .null
    | r + 1 => .ref (ad b r))
  | r + 3 => .ref (ad b r)
def fvs (b : Nat) (fi : Nat → Int32) (fl : Nat → Int64) (fr : Nat → Nat) : Nat → List Nat → List Value
  | _, [] => []
  | j, t :: ts => fv b fi fl fr j t :: fvs b fi fl fr (j + 1) ts
theorem fvs_get (b : Nat) (fi : Nat → Int32) (fl : Nat → Int64) (fr : Nat → Nat) : ∀ (ks : List Nat) (j0 j : Nat), (fvs b fi fl fr j0 ks)[j]? = (ks[j]?).map (fv b fi fl fr (j0 + j))
  | [], _, _ => by simp [fvs]
  | t :: ts, j0, 0 => by simp [fvs]
  | t :: ts, j0, j + 1 => by
    have h := fvs_get b fi fl fr ts (j0 + 1) j
    simp only [fvs, List.getElem?_cons_succ, h]
    rw [show j0 + 1 + j = j0 + (j + 1) by omega]
theorem fvs_len (b : Nat) (fi : Nat → Int32) (fl : Nat → Int64) (fr : Nat → Nat) : ∀ (ks : List Nat) (j0 : Nat), (fvs b fi fl fr j0 ks).length = ks.length
  | [], _ => rfl
  | t :: ts, j0 => by simp [fvs, fvs_len b fi fl fr ts]
def arrE (ty : FieldType) (n : Nat) (fi : Nat → Int32) (fl : Nat → Int64) : vp_A := match ty with
  | .long => (n, .inr (.inl fl))
  | _ => (n, .inl fi)
def cellR (B : BX) (y : (FieldType × Nat) ⊕ (Nat × List Nat)) (fi : Nat → Int32) (fl : Nat → Int64) (fr : Nat → Nat) : va_E := match y with
  | .inl (ty, n) => .inl (bT B ty, arrE ty n fi fl)
  | .inr (ci, ks) => .inr (ci, fvs (bb B) fi fl fr 0 ks)
def cellV (B : BX) (σ : Mem) (k : Nat) : va_E := cellR B (bY B k) (mI σ k) (mL σ k) (mR σ k)
def Hd (B : BX) (n : Nat) (σ : Mem) (H : Heap) : Prop := H.size = bb B + n ∧ (∀ q : Nat, q < bb B → H[q]? = (bH B)[q]?) ∧ ∀ k : Nat, k < n → va_at (bD B) classes (ad (bb B) k, cellV B σ k) H
theorem Hd.set {B : BX} {n k : Nat} {σ σ' : Mem} {H H' : Heap} (h : Hd B n σ H) (hz : H'.size = H.size) (ho : ∀ q : Nat, q ≠ ad (bb B) k → H'[q]? = H[q]?) (hk : va_at (bD B) classes (ad (bb B) k, cellV B σ' k) H') (hs : ∀ a : Nat, a ≠ k → cellV B σ' a = cellV B σ a) : Hd B n σ' H' := by
  obtain ⟨h1, h2, h3⟩ := h
  refine ⟨hz.trans h1, fun q hq => ?_, fun a ha => ?_⟩
  · rw [ho q (by unfold ad; omega)]; exact h2 q hq
  · by_cases e : a = k
    · subst e; exact hk
    · rw [hs a e]
      exact (h3 a ha).kept (ho _ (fun z => e (ad_inj z)))
def tysB (B : BX) : List (ClassId × FieldType) := [(bT B .int, .int), (bT B .boolean, .boolean), (bT B .long, .long), (bT B .byte, .byte)]
def strIx : List Nat := [77, 117, 122, 127, 135]
def strTx : List String := ["uencpwg", "<>=", "+-", "*/%", "tmxysidho"]
def strLen : List Nat := [7, 3, 2, 3, 9]
def strByt : List (List Int32) := [[117, 101, 110, 99, 112, 119, 103], [60, 62, 61], [43, 45], [42, 47, 37], [116, 109, 120, 121, 115, 105, 100, 104, 111]]
/-- what holds of the machine's tables and of what lay there before the law began -/
def Kn (B : BX) (U : State) : Prop := va_K (bD B) classes (tysB B) U ∧ (∀ w ∈ nestW, va_Nw w U) ∧ (∀ i : Nat, i < 5 → vk_R "ShadeTown$LawReader" (strIx.getD i 0) (strTx.getD i "") (bK B i) U) ∧ vk_S 5 strLen strByt (bK B) (bV B) (fun q => bb B ≤ q) U U.heap ∧ va_Z "java/lang/String" "COMPACT_STRINGS" "Z" (.int 1) (fun q => bb B ≤ q) U U.heap
theorem nestW_warm {s U : State} (hW : s.WarmedH U.vm) (h : ∀ w ∈ nestW, va_Nw w s) : ∀ w ∈ nestW, va_Nw w U := by
  intro w hw
  have h1 := h w hw
  simp only [nestW, List.mem_cons, List.not_mem_nil, or_false] at hw
  rcases hw with rfl | rfl | rfl | rfl | rfl | rfl | rfl | rfl | rfl | rfl | rfl | rfl | rfl | rfl <;> exact va_Nw.warmM hW h1
abbrev MI : Type := MethodName × ByteArray × Nat × Option FieldType
abbrev YX : Type := Program × Env × Room × State × MethodId × Array Value × List Frame × Method × Code
def Ok (B : BX) (p : Program) (R : Room) (s : State) (m : MethodId) (args : Array Value) (meth : Method) (c : Code) (μ : MI) (d : Nat) : Prop :=
  p.tables.exec = Jvm.exec ∧ c.code = μ.2.1 ∧ c.maxLocals = μ.2.2.1 ∧ meth.sig.returnType = μ.2.2.2 ∧ s.vm.findClass μ.1.cls = some m.cls ∧ (∀ w ∈ tblG, w.before args s = true) ∧ meth.locks = false ∧ Kn B s ∧ (d ≤ R.frames ∧ 60 * d ≤ R.locals) ∧ meth.name = μ.1.name ∧ (∀ q : Nat, q < bb B → s.heap[q]? = (bH B)[q]?) ∧ bb B ≤ s.heap.size
/-- the machine, in method μ at pc with the locals lv, the stack st and the memory σ of n cells, comes to Q -/
def V (B : BX) (Y : YX) (μ : MI) (d : Nat) (Q : State → Prop) (kc ks n : Nat) (σ : Mem) (pc : Nat) (lv : List (Nat × Value)) (st : List Value) : Prop := match Y with
  | (p, e, R, s, m, args, below, meth, c) => Ok B p R s m args meth c μ d → ∀ (H : Heap) (locs : List Loc) (ls : Array Slot), Hd B n σ H → (∀ q ∈ locs, bb B ≤ q.base) → lv_has ls μ.2.2.1 lv → W p (bl B) e R s m args below meth c H locs kc ks Q (F0 m pc ls st)
section VR
variable {B : BX} {Y : YX} {μ : MI} {d : Nat} {Q : State → Prop} {kc ks n : Nat} {σ : Mem} {pc : Nat} {lv : List (Nat × Value)} {st : List Value}
-- ROWS BEGIN
theorem V.iconst {i : Int} {v : Int32} (hd : decode μ.2.1 pc = .ok (.iconst i, 1)) (hv : Int32.ofInt i = v) (k : V B Y μ d Q kc ks n σ (pc + 1) lv (.int v :: st)) : V B Y μ d Q kc ks n σ pc lv (st) := by
  obtain ⟨p, e, R, s, m, args, below, meth, c⟩ := Y
  intro hO H locs ls hH hL hl
  exact lv_iconst hO.1 hO.2.1 hd hv (k hO H locs ls hH hL hl)
theorem V.bipush {i : Int} {v : Int32} (hd : decode μ.2.1 pc = .ok (.bipush i, 2)) (hv : (Int8.ofInt i).toInt32 = v) (k : V B Y μ d Q kc ks n σ (pc + 2) lv (.int v :: st)) : V B Y μ d Q kc ks n σ pc lv (st) := by
  obtain ⟨p, e, R, s, m, args, below, meth, c⟩ := Y
  intro hO H locs ls hH hL hl
  exact lv_bipush hO.1 hO.2.1 hd hv (k hO H locs ls hH hL hl)
theorem V.sipush {i : Int} {v : Int32} (hd : decode μ.2.1 pc = .ok (.sipush i, 3)) (hv : (Int16.ofInt i).toInt32 = v) (k : V B Y μ d Q kc ks n σ (pc + 3) lv (.int v :: st)) : V B Y μ d Q kc ks n σ pc lv (st) := by
  obtain ⟨p, e, R, s, m, args, below, meth, c⟩ := Y
  intro hO H locs ls hH hL hl
  exact lv_sipush hO.1 hO.2.1 hd hv (k hO H locs ls hH hL hl)
theorem V.lconst {i : Fin 2} {v : Int64} (hd : decode μ.2.1 pc = .ok (.lconst i, 1)) (hv : Int64.ofNat (i : Nat) = v) (k : V B Y μ d Q kc ks n σ (pc + 1) lv (.long v :: st)) : V B Y μ d Q kc ks n σ pc lv (st) := by
  obtain ⟨p, e, R, s, m, args, below, meth, c⟩ := Y
  intro hO H locs ls hH hL hl
  exact lv_lconst hO.1 hO.2.1 hd hv (k hO H locs ls hH hL hl)
theorem V.iload_n {f : Fin 4} {i : Nat} {x : Int32} (hd : decode μ.2.1 pc = .ok (.iload_n f, 1)) (hi : (f : Nat) = i) (j : Nat) (hx : lv[j]? = some (i, .int x)) (k : V B Y μ d Q kc ks n σ (pc + 1) lv (.int x :: st)) : V B Y μ d Q kc ks n σ pc lv (st) := by
  obtain ⟨p, e, R, s, m, args, below, meth, c⟩ := Y
  intro hO H locs ls hH hL hl
  exact lv_iload_n hO.1 hO.2.1 hd hi (lv_at hl j hx) (k hO H locs ls hH hL hl)
theorem V.iload {i : Nat} {x : Int32} (hd : decode μ.2.1 pc = .ok (.iload i, 2)) (j : Nat) (hx : lv[j]? = some (i, .int x)) (k : V B Y μ d Q kc ks n σ (pc + 2) lv (.int x :: st)) : V B Y μ d Q kc ks n σ pc lv (st) := by
  obtain ⟨p, e, R, s, m, args, below, meth, c⟩ := Y
  intro hO H locs ls hH hL hl
  exact lv_iload hO.1 hO.2.1 hd (lv_at hl j hx) (k hO H locs ls hH hL hl)
theorem V.istore_n {f : Fin 4} {i : Nat} {x : Int32} {lv' : List (Nat × Value)} (hd : decode μ.2.1 pc = .ok (.istore_n f, 1)) (hi : (f : Nat) = i) (hn : i < μ.2.2.1) (hq : (i, Value.int x) :: lv.filter (fun q => !(q.1 == i) && !(q.1 + 1 == i && q.2.category == 2)) = lv') (k : V B Y μ d Q kc ks n σ (pc + 1) lv' st) : V B Y μ d Q kc ks n σ pc lv (.int x :: st) := by
  obtain ⟨p, e, R, s, m, args, below, meth, c⟩ := Y
  intro hO H locs ls hH hL hl
  exact lv_istore_n hO.1 hO.2.1 hd hi hl hn hq (fun ls' hl' => k hO H locs ls' hH hL hl')
theorem V.istore {i : Nat} {x : Int32} {lv' : List (Nat × Value)} (hd : decode μ.2.1 pc = .ok (.istore i, 2)) (hn : i < μ.2.2.1) (hq : (i, Value.int x) :: lv.filter (fun q => !(q.1 == i) && !(q.1 + 1 == i && q.2.category == 2)) = lv') (k : V B Y μ d Q kc ks n σ (pc + 2) lv' st) : V B Y μ d Q kc ks n σ pc lv (.int x :: st) := by
  obtain ⟨p, e, R, s, m, args, below, meth, c⟩ := Y
  intro hO H locs ls hH hL hl
  exact lv_istore hO.1 hO.2.1 hd hl hn hq (fun ls' hl' => k hO H locs ls' hH hL hl')
theorem V.lload_n {f : Fin 4} {i : Nat} {x : Int64} (hd : decode μ.2.1 pc = .ok (.lload_n f, 1)) (hi : (f : Nat) = i) (j : Nat) (hx : lv[j]? = some (i, .long x)) (k : V B Y μ d Q kc ks n σ (pc + 1) lv (.long x :: st)) : V B Y μ d Q kc ks n σ pc lv (st) := by
  obtain ⟨p, e, R, s, m, args, below, meth, c⟩ := Y
  intro hO H locs ls hH hL hl
  exact lv_lload_n hO.1 hO.2.1 hd hi (lv_at hl j hx) (k hO H locs ls hH hL hl)
theorem V.lload {i : Nat} {x : Int64} (hd : decode μ.2.1 pc = .ok (.lload i, 2)) (j : Nat) (hx : lv[j]? = some (i, .long x)) (k : V B Y μ d Q kc ks n σ (pc + 2) lv (.long x :: st)) : V B Y μ d Q kc ks n σ pc lv (st) := by
  obtain ⟨p, e, R, s, m, args, below, meth, c⟩ := Y
  intro hO H locs ls hH hL hl
  exact lv_lload hO.1 hO.2.1 hd (lv_at hl j hx) (k hO H locs ls hH hL hl)
theorem V.lstore_n {f : Fin 4} {i : Nat} {x : Int64} {lv' : List (Nat × Value)} (hd : decode μ.2.1 pc = .ok (.lstore_n f, 1)) (hi : (f : Nat) = i) (hn : i + 1 < μ.2.2.1) (hq : (i, Value.long x) :: lv.filter (fun q => !(q.1 == i) && (!(q.1 == i + 1) && !(q.1 + 1 == i && q.2.category == 2))) = lv') (k : V B Y μ d Q kc ks n σ (pc + 1) lv' st) : V B Y μ d Q kc ks n σ pc lv (.long x :: st) := by
  obtain ⟨p, e, R, s, m, args, below, meth, c⟩ := Y
  intro hO H locs ls hH hL hl
  exact lv_lstore_n hO.1 hO.2.1 hd hi hl hn hq (fun ls' hl' => k hO H locs ls' hH hL hl')
theorem V.lstore {i : Nat} {x : Int64} {lv' : List (Nat × Value)} (hd : decode μ.2.1 pc = .ok (.lstore i, 2)) (hn : i + 1 < μ.2.2.1) (hq : (i, Value.long x) :: lv.filter (fun q => !(q.1 == i) && (!(q.1 == i + 1) && !(q.1 + 1 == i && q.2.category == 2))) = lv') (k : V B Y μ d Q kc ks n σ (pc + 2) lv' st) : V B Y μ d Q kc ks n σ pc lv (.long x :: st) := by
  obtain ⟨p, e, R, s, m, args, below, meth, c⟩ := Y
  intro hO H locs ls hH hL hl
  exact lv_lstore hO.1 hO.2.1 hd hl hn hq (fun ls' hl' => k hO H locs ls' hH hL hl')
theorem V.aload_n {f : Fin 4} {i : Nat} {x : Nat} (hd : decode μ.2.1 pc = .ok (.aload_n f, 1)) (hi : (f : Nat) = i) (j : Nat) (hx : lv[j]? = some (i, .ref x)) (k : V B Y μ d Q kc ks n σ (pc + 1) lv (.ref x :: st)) : V B Y μ d Q kc ks n σ pc lv (st) := by
  obtain ⟨p, e, R, s, m, args, below, meth, c⟩ := Y
  intro hO H locs ls hH hL hl
  exact lv_aload_n hO.1 hO.2.1 hd hi (lv_at hl j hx) (k hO H locs ls hH hL hl)
theorem V.aload {i : Nat} {x : Nat} (hd : decode μ.2.1 pc = .ok (.aload i, 2)) (j : Nat) (hx : lv[j]? = some (i, .ref x)) (k : V B Y μ d Q kc ks n σ (pc + 2) lv (.ref x :: st)) : V B Y μ d Q kc ks n σ pc lv (st) := by
  obtain ⟨p, e, R, s, m, args, below, meth, c⟩ := Y
  intro hO H locs ls hH hL hl
  exact lv_aload hO.1 hO.2.1 hd (lv_at hl j hx) (k hO H locs ls hH hL hl)
theorem V.astore_n {f : Fin 4} {i : Nat} {x : Nat} {lv' : List (Nat × Value)} (hd : decode μ.2.1 pc = .ok (.astore_n f, 1)) (hi : (f : Nat) = i) (hn : i < μ.2.2.1) (hq : (i, Value.ref x) :: lv.filter (fun q => !(q.1 == i) && !(q.1 + 1 == i && q.2.category == 2)) = lv') (k : V B Y μ d Q kc ks n σ (pc + 1) lv' st) : V B Y μ d Q kc ks n σ pc lv (.ref x :: st) := by
  obtain ⟨p, e, R, s, m, args, below, meth, c⟩ := Y
  intro hO H locs ls hH hL hl
  exact lv_astore_n hO.1 hO.2.1 hd hi hl hn hq (fun ls' hl' => k hO H locs ls' hH hL hl')
theorem V.astore {i : Nat} {x : Nat} {lv' : List (Nat × Value)} (hd : decode μ.2.1 pc = .ok (.astore i, 2)) (hn : i < μ.2.2.1) (hq : (i, Value.ref x) :: lv.filter (fun q => !(q.1 == i) && !(q.1 + 1 == i && q.2.category == 2)) = lv') (k : V B Y μ d Q kc ks n σ (pc + 2) lv' st) : V B Y μ d Q kc ks n σ pc lv (.ref x :: st) := by
  obtain ⟨p, e, R, s, m, args, below, meth, c⟩ := Y
  intro hO H locs ls hH hL hl
  exact lv_astore hO.1 hO.2.1 hd hl hn hq (fun ls' hl' => k hO H locs ls' hH hL hl')
theorem V.iinc {i : Nat} {z : Int} {x v : Int32} {lv' : List (Nat × Value)} (hd : decode μ.2.1 pc = .ok (.iinc i z, 3)) (j : Nat) (hx : lv[j]? = some (i, .int x)) (hv : x + Int32.ofInt z = v) (hn : i < μ.2.2.1) (hq : (i, Value.int v) :: lv.filter (fun q => !(q.1 == i) && !(q.1 + 1 == i && q.2.category == 2)) = lv') (k : V B Y μ d Q kc ks n σ (pc + 3) lv' st) : V B Y μ d Q kc ks n σ pc lv st := by
  obtain ⟨p, e, R, s, m, args, below, meth, c⟩ := Y
  intro hO H locs ls hH hL hl
  exact lv_iinc hO.1 hO.2.1 hd hl hx hv hn hq (fun ls' hl' => k hO H locs ls' hH hL hl')
theorem V.iadd {x y : Int32} (hd : decode μ.2.1 pc = .ok (.iadd, 1)) (k : V B Y μ d Q kc ks n σ (pc + 1) lv (.int (x + y) :: st)) : V B Y μ d Q kc ks n σ pc lv (.int y :: .int x :: st) := by
  obtain ⟨p, e, R, s, m, args, below, meth, c⟩ := Y
  intro hO H locs ls hH hL hl
  exact lv_iadd hO.1 hO.2.1 hd (k hO H locs ls hH hL hl)
theorem V.isub {x y : Int32} (hd : decode μ.2.1 pc = .ok (.isub, 1)) (k : V B Y μ d Q kc ks n σ (pc + 1) lv (.int (x - y) :: st)) : V B Y μ d Q kc ks n σ pc lv (.int y :: .int x :: st) := by
  obtain ⟨p, e, R, s, m, args, below, meth, c⟩ := Y
  intro hO H locs ls hH hL hl
  exact lv_isub hO.1 hO.2.1 hd (k hO H locs ls hH hL hl)
theorem V.imul {x y : Int32} (hd : decode μ.2.1 pc = .ok (.imul, 1)) (k : V B Y μ d Q kc ks n σ (pc + 1) lv (.int (x * y) :: st)) : V B Y μ d Q kc ks n σ pc lv (.int y :: .int x :: st) := by
  obtain ⟨p, e, R, s, m, args, below, meth, c⟩ := Y
  intro hO H locs ls hH hL hl
  exact lv_imul hO.1 hO.2.1 hd (k hO H locs ls hH hL hl)
theorem V.iand {x y : Int32} (hd : decode μ.2.1 pc = .ok (.iand, 1)) (k : V B Y μ d Q kc ks n σ (pc + 1) lv (.int (x &&& y) :: st)) : V B Y μ d Q kc ks n σ pc lv (.int y :: .int x :: st) := by
  obtain ⟨p, e, R, s, m, args, below, meth, c⟩ := Y
  intro hO H locs ls hH hL hl
  exact lv_iand hO.1 hO.2.1 hd (k hO H locs ls hH hL hl)
theorem V.ior {x y : Int32} (hd : decode μ.2.1 pc = .ok (.ior, 1)) (k : V B Y μ d Q kc ks n σ (pc + 1) lv (.int (x ||| y) :: st)) : V B Y μ d Q kc ks n σ pc lv (.int y :: .int x :: st) := by
  obtain ⟨p, e, R, s, m, args, below, meth, c⟩ := Y
  intro hO H locs ls hH hL hl
  exact lv_ior hO.1 hO.2.1 hd (k hO H locs ls hH hL hl)
theorem V.ixor {x y : Int32} (hd : decode μ.2.1 pc = .ok (.ixor, 1)) (k : V B Y μ d Q kc ks n σ (pc + 1) lv (.int (x ^^^ y) :: st)) : V B Y μ d Q kc ks n σ pc lv (.int y :: .int x :: st) := by
  obtain ⟨p, e, R, s, m, args, below, meth, c⟩ := Y
  intro hO H locs ls hH hL hl
  exact lv_ixor hO.1 hO.2.1 hd (k hO H locs ls hH hL hl)
theorem V.ishl {x y : Int32} (hd : decode μ.2.1 pc = .ok (.ishl, 1)) (k : V B Y μ d Q kc ks n σ (pc + 1) lv (.int (x <<< (y &&& 31)) :: st)) : V B Y μ d Q kc ks n σ pc lv (.int y :: .int x :: st) := by
  obtain ⟨p, e, R, s, m, args, below, meth, c⟩ := Y
  intro hO H locs ls hH hL hl
  exact lv_ishl hO.1 hO.2.1 hd (k hO H locs ls hH hL hl)
theorem V.ishr {x y : Int32} (hd : decode μ.2.1 pc = .ok (.ishr, 1)) (k : V B Y μ d Q kc ks n σ (pc + 1) lv (.int (x >>> (y &&& 31)) :: st)) : V B Y μ d Q kc ks n σ pc lv (.int y :: .int x :: st) := by
  obtain ⟨p, e, R, s, m, args, below, meth, c⟩ := Y
  intro hO H locs ls hH hL hl
  exact lv_ishr hO.1 hO.2.1 hd (k hO H locs ls hH hL hl)
theorem V.iushr {x y : Int32} (hd : decode μ.2.1 pc = .ok (.iushr, 1)) (k : V B Y μ d Q kc ks n σ (pc + 1) lv (.int (x.toUInt32 >>> (y.toUInt32 &&& Int32.toUInt32 31)).toInt32 :: st)) : V B Y μ d Q kc ks n σ pc lv (.int y :: .int x :: st) := by
  obtain ⟨p, e, R, s, m, args, below, meth, c⟩ := Y
  intro hO H locs ls hH hL hl
  exact lv_iushr hO.1 hO.2.1 hd rfl (k hO H locs ls hH hL hl)
theorem V.idiv {x y : Int32} (hd : decode μ.2.1 pc = .ok (.idiv, 1)) (hy : ¬ y = 0) (k : V B Y μ d Q kc ks n σ (pc + 1) lv (.int (x / y) :: st)) : V B Y μ d Q kc ks n σ pc lv (.int y :: .int x :: st) := by
  obtain ⟨p, e, R, s, m, args, below, meth, c⟩ := Y
  intro hO H locs ls hH hL hl
  exact lv_idiv hO.1 hO.2.1 hd hy (k hO H locs ls hH hL hl)
theorem V.irem {x y : Int32} (hd : decode μ.2.1 pc = .ok (.irem, 1)) (hy : ¬ y = 0) (k : V B Y μ d Q kc ks n σ (pc + 1) lv (.int (x - x / y * y) :: st)) : V B Y μ d Q kc ks n σ pc lv (.int y :: .int x :: st) := by
  obtain ⟨p, e, R, s, m, args, below, meth, c⟩ := Y
  intro hO H locs ls hH hL hl
  exact lv_irem hO.1 hO.2.1 hd hy (k hO H locs ls hH hL hl)
theorem V.ineg {x : Int32} (hd : decode μ.2.1 pc = .ok (.ineg, 1)) (k : V B Y μ d Q kc ks n σ (pc + 1) lv (.int (-x) :: st)) : V B Y μ d Q kc ks n σ pc lv (.int x :: st) := by
  obtain ⟨p, e, R, s, m, args, below, meth, c⟩ := Y
  intro hO H locs ls hH hL hl
  exact lv_ineg hO.1 hO.2.1 hd (k hO H locs ls hH hL hl)
theorem V.ladd {x y : Int64} (hd : decode μ.2.1 pc = .ok (.ladd, 1)) (k : V B Y μ d Q kc ks n σ (pc + 1) lv (.long (x + y) :: st)) : V B Y μ d Q kc ks n σ pc lv (.long y :: .long x :: st) := by
  obtain ⟨p, e, R, s, m, args, below, meth, c⟩ := Y
  intro hO H locs ls hH hL hl
  exact lv_ladd hO.1 hO.2.1 hd (k hO H locs ls hH hL hl)
theorem V.lsub {x y : Int64} (hd : decode μ.2.1 pc = .ok (.lsub, 1)) (k : V B Y μ d Q kc ks n σ (pc + 1) lv (.long (x - y) :: st)) : V B Y μ d Q kc ks n σ pc lv (.long y :: .long x :: st) := by
  obtain ⟨p, e, R, s, m, args, below, meth, c⟩ := Y
  intro hO H locs ls hH hL hl
  exact lv_lsub hO.1 hO.2.1 hd (k hO H locs ls hH hL hl)
theorem V.lmul {x y : Int64} (hd : decode μ.2.1 pc = .ok (.lmul, 1)) (k : V B Y μ d Q kc ks n σ (pc + 1) lv (.long (x * y) :: st)) : V B Y μ d Q kc ks n σ pc lv (.long y :: .long x :: st) := by
  obtain ⟨p, e, R, s, m, args, below, meth, c⟩ := Y
  intro hO H locs ls hH hL hl
  exact lv_lmul hO.1 hO.2.1 hd (k hO H locs ls hH hL hl)
theorem V.ldiv {x y : Int64} (hd : decode μ.2.1 pc = .ok (.ldiv, 1)) (hy : ¬ y = 0) (k : V B Y μ d Q kc ks n σ (pc + 1) lv (.long (x / y) :: st)) : V B Y μ d Q kc ks n σ pc lv (.long y :: .long x :: st) := by
  obtain ⟨p, e, R, s, m, args, below, meth, c⟩ := Y
  intro hO H locs ls hH hL hl
  exact lv_ldiv hO.1 hO.2.1 hd hy (k hO H locs ls hH hL hl)
theorem V.lrem {x y : Int64} (hd : decode μ.2.1 pc = .ok (.lrem, 1)) (hy : ¬ y = 0) (k : V B Y μ d Q kc ks n σ (pc + 1) lv (.long (x - x / y * y) :: st)) : V B Y μ d Q kc ks n σ pc lv (.long y :: .long x :: st) := by
  obtain ⟨p, e, R, s, m, args, below, meth, c⟩ := Y
  intro hO H locs ls hH hL hl
  exact lv_lrem hO.1 hO.2.1 hd hy (k hO H locs ls hH hL hl)
theorem V.lshl {x : Int64} {y : Int32} (hd : decode μ.2.1 pc = .ok (.lshl, 1)) (k : V B Y μ d Q kc ks n σ (pc + 1) lv (.long (x <<< (y.toInt64 &&& 63)) :: st)) : V B Y μ d Q kc ks n σ pc lv (.int y :: .long x :: st) := by
  obtain ⟨p, e, R, s, m, args, below, meth, c⟩ := Y
  intro hO H locs ls hH hL hl
  exact lv_lshl hO.1 hO.2.1 hd rfl (k hO H locs ls hH hL hl)
theorem V.lshr {x : Int64} {y : Int32} (hd : decode μ.2.1 pc = .ok (.lshr, 1)) (k : V B Y μ d Q kc ks n σ (pc + 1) lv (.long (x >>> (y.toInt64 &&& 63)) :: st)) : V B Y μ d Q kc ks n σ pc lv (.int y :: .long x :: st) := by
  obtain ⟨p, e, R, s, m, args, below, meth, c⟩ := Y
  intro hO H locs ls hH hL hl
  exact lv_lshr hO.1 hO.2.1 hd rfl (k hO H locs ls hH hL hl)
theorem V.lcmp {x y : Int64} (hd : decode μ.2.1 pc = .ok (.lcmp, 1)) (k : V B Y μ d Q kc ks n σ (pc + 1) lv (.int (lg_cmp x y) :: st)) : V B Y μ d Q kc ks n σ pc lv (.long y :: .long x :: st) := by
  obtain ⟨p, e, R, s, m, args, below, meth, c⟩ := Y
  intro hO H locs ls hH hL hl
  exact W.lcmp hO.1 hO.2.1 hd (k hO H locs ls hH hL hl)
theorem V.i2l {x : Int32} (hd : decode μ.2.1 pc = .ok (.i2l, 1)) (k : V B Y μ d Q kc ks n σ (pc + 1) lv (.long x.toInt64 :: st)) : V B Y μ d Q kc ks n σ pc lv (.int x :: st) := by
  obtain ⟨p, e, R, s, m, args, below, meth, c⟩ := Y
  intro hO H locs ls hH hL hl
  exact lv_i2l hO.1 hO.2.1 hd rfl (k hO H locs ls hH hL hl)
theorem V.l2i {x : Int64} (hd : decode μ.2.1 pc = .ok (.l2i, 1)) (k : V B Y μ d Q kc ks n σ (pc + 1) lv (.int x.toInt32 :: st)) : V B Y μ d Q kc ks n σ pc lv (.long x :: st) := by
  obtain ⟨p, e, R, s, m, args, below, meth, c⟩ := Y
  intro hO H locs ls hH hL hl
  exact lv_l2i hO.1 hO.2.1 hd rfl (k hO H locs ls hH hL hl)
theorem V.i2b {x : Int32} (hd : decode μ.2.1 pc = .ok (.i2b, 1)) (k : V B Y μ d Q kc ks n σ (pc + 1) lv (.int x.toInt8.toInt32 :: st)) : V B Y μ d Q kc ks n σ pc lv (.int x :: st) := by
  obtain ⟨p, e, R, s, m, args, below, meth, c⟩ := Y
  intro hO H locs ls hH hL hl
  exact lv_i2b hO.1 hO.2.1 hd rfl (k hO H locs ls hH hL hl)
theorem V.i2c {x : Int32} (hd : decode μ.2.1 pc = .ok (.i2c, 1)) (k : V B Y μ d Q kc ks n σ (pc + 1) lv (.int (x.toUInt32 % 65536).toInt32 :: st)) : V B Y μ d Q kc ks n σ pc lv (.int x :: st) := by
  obtain ⟨p, e, R, s, m, args, below, meth, c⟩ := Y
  intro hO H locs ls hH hL hl
  exact lv_i2c hO.1 hO.2.1 hd rfl (k hO H locs ls hH hL hl)
theorem V.dup {v : Value} (hd : decode μ.2.1 pc = .ok (.dup, 1)) (hv : v.category = 1) (k : V B Y μ d Q kc ks n σ (pc + 1) lv (v :: v :: st)) : V B Y μ d Q kc ks n σ pc lv (v :: st) := by
  obtain ⟨p, e, R, s, m, args, below, meth, c⟩ := Y
  intro hO H locs ls hH hL hl
  exact lv_dup hO.1 hO.2.1 hd hv (k hO H locs ls hH hL hl)
theorem V.pop {v : Value} (hd : decode μ.2.1 pc = .ok (.pop, 1)) (hv : v.category = 1) (k : V B Y μ d Q kc ks n σ (pc + 1) lv (st)) : V B Y μ d Q kc ks n σ pc lv (v :: st) := by
  obtain ⟨p, e, R, s, m, args, below, meth, c⟩ := Y
  intro hO H locs ls hH hL hl
  exact lv_pop hO.1 hO.2.1 hd hv (k hO H locs ls hH hL hl)
theorem V.dup2 {v w : Value} (hd : decode μ.2.1 pc = .ok (.dup2, 1)) (hv : v.category = 1) (hw : w.category = 1) (k : V B Y μ d Q kc ks n σ (pc + 1) lv (v :: w :: v :: w :: st)) : V B Y μ d Q kc ks n σ pc lv (v :: w :: st) := by
  obtain ⟨p, e, R, s, m, args, below, meth, c⟩ := Y
  intro hO H locs ls hH hL hl
  exact lv_dup2_11 hO.1 hO.2.1 hd hv hw (k hO H locs ls hH hL hl)
-- the branches: what the kit says of them
theorem V.if_eq {x : Int32} {off : Int} {tgt : Nat} (hd : decode μ.2.1 pc = .ok (.ifCond .eq off, 3)) (ht : (pc : Int) + off = (tgt : Int)) (kt : x = 0 → V B Y μ d Q kc ks n σ tgt lv st) (kf : ¬ x = 0 → V B Y μ d Q kc ks n σ (pc + 3) lv st) : V B Y μ d Q kc ks n σ pc lv (.int x :: st) := by
  obtain ⟨p, e, R, s, m, args, below, meth, c⟩ := Y
  intro hO H locs ls hH hL hl
  exact lv_if_eq hO.1 hO.2.1 hd ht (fun h => kt h hO H locs ls hH hL hl) (fun h => kf h hO H locs ls hH hL hl)
theorem V.icmp_eq {x y : Int32} {off : Int} {tgt : Nat} (hd : decode μ.2.1 pc = .ok (.if_icmp .eq off, 3)) (ht : (pc : Int) + off = (tgt : Int)) (kt : x = y → V B Y μ d Q kc ks n σ tgt lv st) (kf : ¬ x = y → V B Y μ d Q kc ks n σ (pc + 3) lv st) : V B Y μ d Q kc ks n σ pc lv (.int y :: .int x :: st) := by
  obtain ⟨p, e, R, s, m, args, below, meth, c⟩ := Y
  intro hO H locs ls hH hL hl
  exact lv_icmp_eq hO.1 hO.2.1 hd ht (fun h => kt h hO H locs ls hH hL hl) (fun h => kf h hO H locs ls hH hL hl)
theorem V.if_ne {x : Int32} {off : Int} {tgt : Nat} (hd : decode μ.2.1 pc = .ok (.ifCond .ne off, 3)) (ht : (pc : Int) + off = (tgt : Int)) (kt : ¬ x = 0 → V B Y μ d Q kc ks n σ tgt lv st) (kf : x = 0 → V B Y μ d Q kc ks n σ (pc + 3) lv st) : V B Y μ d Q kc ks n σ pc lv (.int x :: st) := by
  obtain ⟨p, e, R, s, m, args, below, meth, c⟩ := Y
  intro hO H locs ls hH hL hl
  exact lv_if_ne hO.1 hO.2.1 hd ht (fun h => kt h hO H locs ls hH hL hl) (fun h => kf h hO H locs ls hH hL hl)
theorem V.icmp_ne {x y : Int32} {off : Int} {tgt : Nat} (hd : decode μ.2.1 pc = .ok (.if_icmp .ne off, 3)) (ht : (pc : Int) + off = (tgt : Int)) (kt : ¬ x = y → V B Y μ d Q kc ks n σ tgt lv st) (kf : x = y → V B Y μ d Q kc ks n σ (pc + 3) lv st) : V B Y μ d Q kc ks n σ pc lv (.int y :: .int x :: st) := by
  obtain ⟨p, e, R, s, m, args, below, meth, c⟩ := Y
  intro hO H locs ls hH hL hl
  exact lv_icmp_ne hO.1 hO.2.1 hd ht (fun h => kt h hO H locs ls hH hL hl) (fun h => kf h hO H locs ls hH hL hl)
theorem V.if_lt {x : Int32} {off : Int} {tgt : Nat} (hd : decode μ.2.1 pc = .ok (.ifCond .lt off, 3)) (ht : (pc : Int) + off = (tgt : Int)) (kt : x < 0 → V B Y μ d Q kc ks n σ tgt lv st) (kf : ¬ x < 0 → V B Y μ d Q kc ks n σ (pc + 3) lv st) : V B Y μ d Q kc ks n σ pc lv (.int x :: st) := by
  obtain ⟨p, e, R, s, m, args, below, meth, c⟩ := Y
  intro hO H locs ls hH hL hl
  exact lv_if_lt hO.1 hO.2.1 hd ht (fun h => kt h hO H locs ls hH hL hl) (fun h => kf h hO H locs ls hH hL hl)
theorem V.icmp_lt {x y : Int32} {off : Int} {tgt : Nat} (hd : decode μ.2.1 pc = .ok (.if_icmp .lt off, 3)) (ht : (pc : Int) + off = (tgt : Int)) (kt : x < y → V B Y μ d Q kc ks n σ tgt lv st) (kf : ¬ x < y → V B Y μ d Q kc ks n σ (pc + 3) lv st) : V B Y μ d Q kc ks n σ pc lv (.int y :: .int x :: st) := by
  obtain ⟨p, e, R, s, m, args, below, meth, c⟩ := Y
  intro hO H locs ls hH hL hl
  exact lv_icmp_lt hO.1 hO.2.1 hd ht (fun h => kt h hO H locs ls hH hL hl) (fun h => kf h hO H locs ls hH hL hl)
theorem V.if_ge {x : Int32} {off : Int} {tgt : Nat} (hd : decode μ.2.1 pc = .ok (.ifCond .ge off, 3)) (ht : (pc : Int) + off = (tgt : Int)) (kt : 0 ≤ x → V B Y μ d Q kc ks n σ tgt lv st) (kf : ¬ 0 ≤ x → V B Y μ d Q kc ks n σ (pc + 3) lv st) : V B Y μ d Q kc ks n σ pc lv (.int x :: st) := by
  obtain ⟨p, e, R, s, m, args, below, meth, c⟩ := Y
  intro hO H locs ls hH hL hl
  exact lv_if_ge hO.1 hO.2.1 hd ht (fun h => kt h hO H locs ls hH hL hl) (fun h => kf h hO H locs ls hH hL hl)
theorem V.icmp_ge {x y : Int32} {off : Int} {tgt : Nat} (hd : decode μ.2.1 pc = .ok (.if_icmp .ge off, 3)) (ht : (pc : Int) + off = (tgt : Int)) (kt : y ≤ x → V B Y μ d Q kc ks n σ tgt lv st) (kf : ¬ y ≤ x → V B Y μ d Q kc ks n σ (pc + 3) lv st) : V B Y μ d Q kc ks n σ pc lv (.int y :: .int x :: st) := by
  obtain ⟨p, e, R, s, m, args, below, meth, c⟩ := Y
  intro hO H locs ls hH hL hl
  exact lv_icmp_ge hO.1 hO.2.1 hd ht (fun h => kt h hO H locs ls hH hL hl) (fun h => kf h hO H locs ls hH hL hl)
theorem V.if_gt {x : Int32} {off : Int} {tgt : Nat} (hd : decode μ.2.1 pc = .ok (.ifCond .gt off, 3)) (ht : (pc : Int) + off = (tgt : Int)) (kt : 0 < x → V B Y μ d Q kc ks n σ tgt lv st) (kf : ¬ 0 < x → V B Y μ d Q kc ks n σ (pc + 3) lv st) : V B Y μ d Q kc ks n σ pc lv (.int x :: st) := by
  obtain ⟨p, e, R, s, m, args, below, meth, c⟩ := Y
  intro hO H locs ls hH hL hl
  exact lv_if_gt hO.1 hO.2.1 hd ht (fun h => kt h hO H locs ls hH hL hl) (fun h => kf h hO H locs ls hH hL hl)
theorem V.icmp_gt {x y : Int32} {off : Int} {tgt : Nat} (hd : decode μ.2.1 pc = .ok (.if_icmp .gt off, 3)) (ht : (pc : Int) + off = (tgt : Int)) (kt : y < x → V B Y μ d Q kc ks n σ tgt lv st) (kf : ¬ y < x → V B Y μ d Q kc ks n σ (pc + 3) lv st) : V B Y μ d Q kc ks n σ pc lv (.int y :: .int x :: st) := by
  obtain ⟨p, e, R, s, m, args, below, meth, c⟩ := Y
  intro hO H locs ls hH hL hl
  exact lv_icmp_gt hO.1 hO.2.1 hd ht (fun h => kt h hO H locs ls hH hL hl) (fun h => kf h hO H locs ls hH hL hl)
theorem V.if_le {x : Int32} {off : Int} {tgt : Nat} (hd : decode μ.2.1 pc = .ok (.ifCond .le off, 3)) (ht : (pc : Int) + off = (tgt : Int)) (kt : x ≤ 0 → V B Y μ d Q kc ks n σ tgt lv st) (kf : ¬ x ≤ 0 → V B Y μ d Q kc ks n σ (pc + 3) lv st) : V B Y μ d Q kc ks n σ pc lv (.int x :: st) := by
  obtain ⟨p, e, R, s, m, args, below, meth, c⟩ := Y
  intro hO H locs ls hH hL hl
  exact lv_if_le hO.1 hO.2.1 hd ht (fun h => kt h hO H locs ls hH hL hl) (fun h => kf h hO H locs ls hH hL hl)
theorem V.icmp_le {x y : Int32} {off : Int} {tgt : Nat} (hd : decode μ.2.1 pc = .ok (.if_icmp .le off, 3)) (ht : (pc : Int) + off = (tgt : Int)) (kt : x ≤ y → V B Y μ d Q kc ks n σ tgt lv st) (kf : ¬ x ≤ y → V B Y μ d Q kc ks n σ (pc + 3) lv st) : V B Y μ d Q kc ks n σ pc lv (.int y :: .int x :: st) := by
  obtain ⟨p, e, R, s, m, args, below, meth, c⟩ := Y
  intro hO H locs ls hH hL hl
  exact lv_icmp_le hO.1 hO.2.1 hd ht (fun h => kt h hO H locs ls hH hL hl) (fun h => kf h hO H locs ls hH hL hl)
theorem V.goto {off : Int} {tgt : Nat} (hd : decode μ.2.1 pc = .ok (.goto off, 3)) (ht : (pc : Int) + off = (tgt : Int)) (k : V B Y μ d Q kc ks n σ tgt lv st) : V B Y μ d Q kc ks n σ pc lv st := by
  obtain ⟨p, e, R, s, m, args, below, meth, c⟩ := Y
  intro hO H locs ls hH hL hl
  exact lv_goto hO.1 hO.2.1 hd ht (k hO H locs ls hH hL hl)
end VR
