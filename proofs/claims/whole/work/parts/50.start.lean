/-! THE CLAIM OUT OF ONE WALK OF THE LAW'S BODY. Your part is whole_start (and what it stands on); all else here is the same for every law, but numbers. -/
def R_law : String := "ShadeTownLaw"
def lw_P (b : Addr) (xs : List Int32) (args : Array Value) (s : State) : Prop := args = #[.ref b] ∧ s.IntsAt b xs ∧ xs.length ≤ 4096 ∧ (Jvm.Cond.and given_1 narrow_1).before args s = true
def lw_Q (_ : Array Value) (s : State) (o : Outcome) (t : State) : Prop := o = .returned (some (.int 1)) ∧ Framed s o t [] 600000 7302250
def lw_Z (below : List Frame) (a : Array Value) (s : State) : State → Prop := fun t => ∃ o, t.status = .running ∧ Ended t below o ∧ lw_Q a s o t
/-- the law's own end, with 1 on the stack, nothing written that was there before, its room as the claim has it -/
theorem lw_ret {p : Program} {l : Launch} {e : Env} {s : State} {m : MethodId} {below : List Frame} {meth : Method} {c : Code} {b : Nat} (hx : p.tables.exec = Jvm.exec) (hb : c.code = code) (hr : meth.sig.returnType = ret) (hlocks : meth.locks = false) {pc : Nat} {H : Heap} {ls : Array Slot} (hdg : decode code pc = .ok (.ireturn, 1)) : W p l e room_1 s m #[Value.ref b] below meth c H [] 600000 7302250 (lw_Z below #[Value.ref b] s) (F0 m pc ls [.int 1]) := by
  intro T hT X
  obtain ⟨fs, hret, hrun, hended, hW, hframe⟩ := X.leave (v := some (.int 1)) (hlocks := hlocks) (fun h => by rw [hr] at h; cases h)
  have hmeth' : T.vm.method? m = some meth := X.method'
  refine ⟨T.setFrames fs, ?_, .returned (some (.int 1)), hrun, hended, rfl, ⟨_, rfl⟩, hW, hframe⟩
  jvm_step X.here [X.here.top, hx, hb, hdg, hmeth', hr, ret, narrow_b1]
  (try refine ⟨rfl, ?_⟩); (try refine ⟨rfl, ?_⟩)
  first | (intro acts; rw [hret _ acts rfl rfl rfl]) | rw [hret _ _ rfl rfl rfl]
  exact Steps.refl _
/-- what holds at the law's entry: the machine, the code, the tables' words (any of lw_tbl by 'hts w (by decide +kernel)'), the script of L ints xs at the cell b, what the Statement gives of the start (any of its parts by flat_of_before) -/
def lw_At (p : Program) (s : State) (m : MethodId) (meth : Method) (c : Code) (b L : Nat) (xs : Nat → Int32) : Prop :=
  p.tables.exec = Jvm.exec ∧ c.code = code ∧ meth.sig.returnType = ret ∧ c.maxLocals = 4 ∧ s.vm.findClass R_law = some m.cls ∧ (∀ w ∈ lw_tbl, w.before #[Value.ref b] s = true) ∧ va_X b L xs s s.heap ∧ b < s.heap.size ∧ meth.locks = false ∧ (Jvm.Cond.and given_1 narrow_1).before #[Value.ref b] s = true ∧ meth.name = x.name

def g_all (σ : Mem) : Mem := g_Mo_init_65 (zr (g_Sh_init_0 (zr σ 0)) 65)
theorem cell_arr (Z : ZX) (σ : Mem) {k : Nat} {a : FieldType × Nat} (h : lay1 k = .inl a) : cellV (mkB0 Z) σ k = cellV (mkB Z) σ k := by
  have h0 : lay0 k = .inl a := by simp only [lay0, h]
  show cellR (mkB0 Z) (lay0 k) _ _ _ = cellR (mkB Z) (lay1 k) _ _ _
  rw [h0, h]
  rfl
set_option maxRecDepth 100000 in
theorem cell_o0 (Z : ZX) (σ : Mem) : cellV (mkB0 Z) (g_all σ) 0 = cellV (mkB Z) (g_all σ) 0 := rfl
set_option maxRecDepth 100000 in
theorem cell_o1 (Z : ZX) (σ : Mem) : cellV (mkB0 Z) (g_all σ) 1 = cellV (mkB Z) (g_all σ) 1 := rfl
set_option maxRecDepth 100000 in
theorem cell_o3 (Z : ZX) (σ : Mem) : cellV (mkB0 Z) (g_all σ) 3 = cellV (mkB Z) (g_all σ) 3 := rfl
set_option maxRecDepth 100000 in
theorem cell_o10 (Z : ZX) (σ : Mem) : cellV (mkB0 Z) (g_all σ) 10 = cellV (mkB Z) (g_all σ) 10 := rfl
set_option maxRecDepth 100000 in
theorem cell_o17 (Z : ZX) (σ : Mem) : cellV (mkB0 Z) (g_all σ) 17 = cellV (mkB Z) (g_all σ) 17 := rfl
set_option maxRecDepth 100000 in
theorem cell_o19 (Z : ZX) (σ : Mem) : cellV (mkB0 Z) (g_all σ) 19 = cellV (mkB Z) (g_all σ) 19 := rfl
set_option maxRecDepth 100000 in
theorem cell_o26 (Z : ZX) (σ : Mem) : cellV (mkB0 Z) (g_all σ) 26 = cellV (mkB Z) (g_all σ) 26 := rfl
set_option maxRecDepth 100000 in
theorem cell_o33 (Z : ZX) (σ : Mem) : cellV (mkB0 Z) (g_all σ) 33 = cellV (mkB Z) (g_all σ) 33 := rfl
set_option maxRecDepth 100000 in
theorem cell_o41 (Z : ZX) (σ : Mem) : cellV (mkB0 Z) (g_all σ) 41 = cellV (mkB Z) (g_all σ) 41 := rfl
set_option maxRecDepth 100000 in
theorem cell_o44 (Z : ZX) (σ : Mem) : cellV (mkB0 Z) (g_all σ) 44 = cellV (mkB Z) (g_all σ) 44 := rfl
set_option maxRecDepth 100000 in
theorem cell_o47 (Z : ZX) (σ : Mem) : cellV (mkB0 Z) (g_all σ) 47 = cellV (mkB Z) (g_all σ) 47 := rfl
set_option maxRecDepth 100000 in
theorem cell_o56 (Z : ZX) (σ : Mem) : cellV (mkB0 Z) (g_all σ) 56 = cellV (mkB Z) (g_all σ) 56 := rfl
set_option maxRecDepth 100000 in
theorem cell_o63 (Z : ZX) (σ : Mem) : cellV (mkB0 Z) (g_all σ) 63 = cellV (mkB Z) (g_all σ) 63 := rfl
set_option maxRecDepth 100000 in
theorem cell_o65 (Z : ZX) (σ : Mem) : cellV (mkB0 Z) (g_all σ) 65 = cellV (mkB Z) (g_all σ) 65 := rfl
theorem objs (k : Nat) (hk : k < nC) : (∃ a, lay1 k = .inl a) ∨ k ∈ ([0, 1, 3, 10, 17, 19, 26, 33, 41, 44, 47, 56, 63, 65] : List Nat) := by
  have h : ∀ k : Fin nC, (match lay1 k.val with | .inl _ => true | .inr _ => decide (k.val ∈ ([0, 1, 3, 10, 17, 19, 26, 33, 41, 44, 47, 56, 63, 65] : List Nat))) = true := by decide +kernel
  have h1 := h ⟨k, hk⟩
  cases e : lay1 k with
  | inl a => exact Or.inl ⟨a, rfl⟩
  | inr a => rw [e] at h1; exact Or.inr (of_decide_eq_true h1)
theorem lay_all (Z : ZX) (σ : Mem) (H : Heap) (h : Hd (mkB0 Z) nC (g_all σ) H) : Hd (mkB Z) nC (g_all σ) H := by
  refine ⟨h.1, h.2.1, fun k hk => ?_⟩
  have e : cellV (mkB0 Z) (g_all σ) k = cellV (mkB Z) (g_all σ) k := by
    rcases objs k hk with ⟨a, ha⟩ | hm
    · exact cell_arr Z _ ha
    · simp only [List.mem_cons, List.not_mem_nil, or_false] at hm
      rcases hm with rfl | rfl | rfl | rfl | rfl | rfl | rfl | rfl | rfl | rfl | rfl | rfl | rfl | rfl
      · exact cell_o0 Z σ
      · exact cell_o1 Z σ
      · exact cell_o3 Z σ
      · exact cell_o10 Z σ
      · exact cell_o17 Z σ
      · exact cell_o19 Z σ
      · exact cell_o26 Z σ
      · exact cell_o33 Z σ
      · exact cell_o41 Z σ
      · exact cell_o44 Z σ
      · exact cell_o47 Z σ
      · exact cell_o56 Z σ
      · exact cell_o63 Z σ
      · exact cell_o65 Z σ
  have h1 := h.2.2 k hk
  rw [e] at h1
  exact h1
theorem d_Lw_law_0 : decode code 0 = .ok (.new 7, 3) := by decide +kernel
theorem d_Lw_law_3 : decode code 3 = .ok (.dup, 1) := by decide +kernel
theorem d_Lw_law_4 : decode code 4 = .ok (.invokespecial 9, 3) := by decide +kernel
theorem d_Lw_law_7 : decode code 7 = .ok (.astore_n 1, 1) := by decide +kernel
theorem d_Lw_law_8 : decode code 8 = .ok (.new 10, 3) := by decide +kernel
theorem d_Lw_law_11 : decode code 11 = .ok (.dup, 1) := by decide +kernel
theorem d_Lw_law_12 : decode code 12 = .ok (.invokespecial 12, 3) := by decide +kernel
theorem d_Lw_law_15 : decode code 15 = .ok (.astore_n 2, 1) := by decide +kernel
theorem d_Lw_law_16 : decode code 16 = .ok (.iconst 0, 1) := by decide +kernel
theorem d_Lw_law_17 : decode code 17 = .ok (.istore_n 3, 1) := by decide +kernel
theorem cw_Lw_7 : Cond.classLink "ShadeTownLaw" 7 "ShadeTown" ∈ tblG := atG 132 (by decide +kernel) rfl
theorem iw_Sh : Cond.instantiable "ShadeTown" 13 ∈ tblG ∧ Cond.initialized "ShadeTown" ∈ tblG := ⟨atG 133 (by decide +kernel) rfl, atG 111 (by decide +kernel) rfl⟩
theorem lk_Lw_9 : Cond.methodLink "ShadeTownLaw" 9 ⟨"ShadeTown", "<init>", "()V"⟩ ∈ tblG := atG 134 (by decide +kernel) rfl
theorem ki_Sh_init : MOk m_Sh_init 0 ∧ Cond.instanceMethod m_Sh_init.1 ∈ tblG := ⟨⟨atG 136 (by decide +kernel) rfl, atG 111 (by decide +kernel) rfl, ⟨by decide, by decide⟩, by decide +kernel, by decide⟩, atG 135 (by decide +kernel) rfl⟩
theorem cw_Lw_10 : Cond.classLink "ShadeTownLaw" 10 "ShadeTownModel" ∈ tblG := atG 1326 (by decide +kernel) rfl
theorem iw_Mo : Cond.instantiable "ShadeTownModel" 79 ∈ tblG ∧ Cond.initialized "ShadeTownModel" ∈ tblG := ⟨atG 1327 (by decide +kernel) rfl, atG 122 (by decide +kernel) rfl⟩
theorem lk_Lw_12 : Cond.methodLink "ShadeTownLaw" 12 ⟨"ShadeTownModel", "<init>", "()V"⟩ ∈ tblG := atG 1328 (by decide +kernel) rfl
theorem ki_Mo_init : MOk m_Mo_init 0 ∧ Cond.instanceMethod m_Mo_init.1 ∈ tblG := ⟨⟨atG 1330 (by decide +kernel) rfl, atG 122 (by decide +kernel) rfl, ⟨by decide, by decide⟩, by decide +kernel, by decide⟩, atG 1329 (by decide +kernel) rfl⟩
set_option maxHeartbeats 4000000 in
set_option maxRecDepth 100000 in
theorem law_start (Z : ZX) {Y : YX} {Qw : State → Prop} {sb Ln N : Nat} {xs : Nat → Int32} {σ : Mem} {res : Int32 × Mem} (hX : XOk (mkB Z) Y sb Ln xs) (hRm : Y.2.2.1 = room_1) (hT : ∀ (σ : Mem) (pc : Nat) (lv : List (Nat × Value)), decode code pc = .ok (.ireturn, 1) → V (mkB Z) Y m_Lw_law 49 Qw kLw sLw nC σ pc lv [.int 1]) (h : L_law_l18 N Ln xs N 0 (g_all σ) = some res) (hr : res.1 = 1) : V (mkB0 Z) Y m_Lw_law 49 Qw 0 0 0 σ 0 [(0, .ref sb)] [] := by
  refine V.newO ok_Sh cw_Lw_7 iw_Sh.1 iw_Sh.2 rfl (fun j hj => by rcases (show j = 0 ∨ j = 1 ∨ j = 2 ∨ j = 3 ∨ j = 4 ∨ j = 5 ∨ j = 6 ∨ j = 7 ∨ j = 8 ∨ j = 9 ∨ j = 10 ∨ j = 11 ∨ j = 12 by omega) with rfl | rfl | rfl | rfl | rfl | rfl | rfl | rfl | rfl | rfl | rfl | rfl | rfl <;> rfl) (fun R h => by rw [← h, hRm]; exact ⟨Nat.le_of_ble_eq_true rfl, Nat.le_of_ble_eq_true rfl⟩) d_Lw_law_0 ?_
  refine V.dup d_Lw_law_3 rfl ?_
  refine V.callI (as := []) (st := [rf0 Z 0]) (c_Sh_init_0 Z _) ki_Sh_init.1 ki_Sh_init.2 rfl rfl lk_Lw_9 (by decide) rfl rfl (Nat.le_of_ble_eq_true rfl) (fun R h => by rw [← h, hRm]; exact ⟨Nat.le_of_ble_eq_true rfl, Nat.le_of_ble_eq_true rfl⟩) d_Lw_law_4 (fun v t hh => ?_)
  obtain ⟨rfl, rfl⟩ := hh
  refine V.astore_n (lv' := [(1, rf0 Z 0), (0, .ref sb)]) d_Lw_law_7 rfl (by decide) rfl ?_
  refine V.newO ok_Mo cw_Lw_10 iw_Mo.1 iw_Mo.2 rfl (fun j hj => by rcases (show j = 0 ∨ j = 1 ∨ j = 2 ∨ j = 3 ∨ j = 4 ∨ j = 5 ∨ j = 6 ∨ j = 7 ∨ j = 8 ∨ j = 9 ∨ j = 10 ∨ j = 11 ∨ j = 12 ∨ j = 13 ∨ j = 14 ∨ j = 15 ∨ j = 16 ∨ j = 17 ∨ j = 18 ∨ j = 19 ∨ j = 20 ∨ j = 21 ∨ j = 22 ∨ j = 23 ∨ j = 24 ∨ j = 25 ∨ j = 26 ∨ j = 27 ∨ j = 28 ∨ j = 29 ∨ j = 30 ∨ j = 31 ∨ j = 32 ∨ j = 33 ∨ j = 34 ∨ j = 35 ∨ j = 36 ∨ j = 37 ∨ j = 38 ∨ j = 39 ∨ j = 40 ∨ j = 41 ∨ j = 42 ∨ j = 43 ∨ j = 44 ∨ j = 45 ∨ j = 46 ∨ j = 47 ∨ j = 48 ∨ j = 49 ∨ j = 50 ∨ j = 51 ∨ j = 52 ∨ j = 53 ∨ j = 54 ∨ j = 55 ∨ j = 56 ∨ j = 57 ∨ j = 58 ∨ j = 59 ∨ j = 60 ∨ j = 61 ∨ j = 62 ∨ j = 63 ∨ j = 64 ∨ j = 65 ∨ j = 66 ∨ j = 67 ∨ j = 68 ∨ j = 69 ∨ j = 70 ∨ j = 71 ∨ j = 72 ∨ j = 73 ∨ j = 74 ∨ j = 75 ∨ j = 76 ∨ j = 77 ∨ j = 78 by omega) with rfl | rfl | rfl | rfl | rfl | rfl | rfl | rfl | rfl | rfl | rfl | rfl | rfl | rfl | rfl | rfl | rfl | rfl | rfl | rfl | rfl | rfl | rfl | rfl | rfl | rfl | rfl | rfl | rfl | rfl | rfl | rfl | rfl | rfl | rfl | rfl | rfl | rfl | rfl | rfl | rfl | rfl | rfl | rfl | rfl | rfl | rfl | rfl | rfl | rfl | rfl | rfl | rfl | rfl | rfl | rfl | rfl | rfl | rfl | rfl | rfl | rfl | rfl | rfl | rfl | rfl | rfl | rfl | rfl | rfl | rfl | rfl | rfl | rfl | rfl | rfl | rfl | rfl | rfl <;> rfl) (fun R h => by rw [← h, hRm]; exact ⟨Nat.le_of_ble_eq_true rfl, Nat.le_of_ble_eq_true rfl⟩) d_Lw_law_8 ?_
  refine V.dup d_Lw_law_11 rfl ?_
  refine V.callI (as := []) (st := [rf0 Z 65]) (c_Mo_init_65 Z _) ki_Mo_init.1 ki_Mo_init.2 rfl rfl lk_Lw_12 (by decide) rfl rfl (Nat.le_of_ble_eq_true rfl) (fun R h => by rw [← h, hRm]; exact ⟨Nat.le_of_ble_eq_true rfl, Nat.le_of_ble_eq_true rfl⟩) d_Lw_law_12 (fun v t hh => ?_)
  obtain ⟨rfl, rfl⟩ := hh
  refine V.astore_n (lv' := [(2, rf0 Z 65), (1, rf0 Z 0), (0, .ref sb)]) d_Lw_law_15 rfl (by decide) rfl ?_
  refine V.iconst (v := 0) d_Lw_law_16 (by decide) ?_
  refine V.istore_n (lv' := [(3, .int 0), (2, rf0 Z 65), (1, rf0 Z 0), (0, .ref sb)]) d_Lw_law_17 rfl (by decide) rfl ?_
  refine V.lay (B' := mkB Z) (lay_all Z σ) ⟨rfl, rfl, rfl⟩ (fun _ h => h) ?_
  exact V.pick [3, 2, 1, 0] rfl (cL_law_l18 Z hX hRm (Good := fun z => z.1 = 1) hT (fun _ _ h => h) N 0 _ res h hr)
