-- ===== returns, contracts, calls =====
def Qc (B : BX) (n : Nat) (post : Option Value → Mem → Prop) : Array Value → State → Outcome → State → Prop := fun _ _ o t => ∃ (v : Option Value) (σ' : Mem), o = .returned v ∧ post v σ' ∧ Hd B n σ' t.heap
def QP (B : BX) (Y : YX) (n mc ms : Nat) (post : Option Value → Mem → Prop) : State → Prop := match Y with
  | (_, _, _, s, _, args, below, _, _) => MQ below (Qc B n post) args s mc ms (fun q => bb B ≤ q)
def wsM (μ : MI) : List Cond := Cond.code μ.1 μ.2.1 μ.2.2.1 μ.2.2.2 :: tblG
def rmD (d mc ms : Nat) : Room := { frames := d, cells := mc, slots := ms, locals := 60 * d }
/-- the contract: method μ called with 'as' in the memory σ of n cells returns v with the memory σ' of n + mc cells, and post v σ' -/
def Ct (B : BX) (d : Nat) (μ : MI) (as : List Value) (n : Nat) (σ : Mem) (mc ms : Nat) (post : Option Value → Mem → Prop) : Prop :=
  Met (bl B) μ.1 (wsM μ) (rmD d mc ms) (va_Pc as (fun U => Hd B n σ U.heap ∧ Kn B U)) (Qc B (n + mc) post) mc ms (fun q => bb B ≤ q)
/-- a contract out of the walk of the method's body, also where the class is one of which the machine replaces some methods, but not this one -/
theorem metF {l : Launch} {y : MethodName} {ws ws' : List Cond} {rm : Room} {Pc : Array Value → State → Prop} {Qd : Array Value → State → Outcome → State → Prop} {mc ms : Nat} {free : Addr → Prop} {cc : ByteArray} {maxL : Nat} {ret : Option FieldType}
    (hy : plainFor y = true) (hw : ws = Cond.code y cc maxL ret :: ws')
    (body : ∀ p e s m args below meth c s₁, BodyLoose p l y (headSpec ws rm) cc maxL ret e s m args below meth c s₁ → c.maxLocals = maxL → Pc args s →
      W p l e (headSpec ws rm).room s m args below meth c s.heap [] 0 0 (MQ below Qd args s mc ms free) (entryFrame m args maxL)) : Met l y ws rm Pc Qd mc ms free := by
  refine MetFree.of_bodySF (code := cc) (maxLocals := maxL) (ret := ret) hy ?_ ?_
  · intro args s m h hn
    obtain ⟨meth, c, h1, h2, h3, h4, h5, h6, -, -⟩ := Cond.code_spec hn (atoms_spec (ws := ws) h _ (by rw [hw]; exact List.mem_cons_self))
    exact ⟨meth, c, h1, h2, h3, h4, h5, h6⟩
  · intro p e s m args below meth c s₁ D hml hP _
    obtain ⟨t, a1, o, b1, b2, b3⟩ := body p e s m args below meth c s₁ D hml hP s₁ (by rw [D.state]; rfl) (Stand.of_body D)
    exact ⟨t, o, a1, b1, b2, ⟨b3.1, b3.2⟩⟩
section VC
variable {B : BX} {Y : YX} {μ : MI} {d : Nat} {Q : State → Prop} {kc ks n : Nat} {σ : Mem} {pc : Nat} {lv : List (Nat × Value)} {st : List Value}
theorem V.zret {post : Option Value → Mem → Prop} {v : Int32} {ty : FieldType} (hr : μ.2.2.2 = some ty) (hn : narrow ty (.int v) = .int v) (hd : decode μ.2.1 pc = .ok (.ireturn, 1)) (hp : post (some (.int v)) σ) : V B Y μ d (QP B Y n kc ks post) kc ks n σ pc lv [.int v] := by
  obtain ⟨p, e, R, s, m, args, below, meth, c⟩ := Y
  intro hO H locs ls hH hL hl
  exact W.zret (free := fun q => bb B ≤ q) hO.1 hO.2.1 (hO.2.2.2.1.trans hr) hn (fun t ht hW => ⟨_, σ, rfl, hp, by rw [ht]; exact hH⟩) hL hd hO.2.2.2.2.2.2.1
theorem V.iret {post : Option Value → Mem → Prop} {v : Int32} (hr : μ.2.2.2 = some .int) (hd : decode μ.2.1 pc = .ok (.ireturn, 1)) (hp : post (some (.int v)) σ) : V B Y μ d (QP B Y n kc ks post) kc ks n σ pc lv [.int v] := V.zret hr rfl hd hp
theorem V.lret {post : Option Value → Mem → Prop} {v : Int64} (hr : μ.2.2.2 = some .long) (hd : decode μ.2.1 pc = .ok (.lreturn, 1)) (hp : post (some (.long v)) σ) : V B Y μ d (QP B Y n kc ks post) kc ks n σ pc lv [.long v] := by
  obtain ⟨p, e, R, s, m, args, below, meth, c⟩ := Y
  intro hO H locs ls hH hL hl
  exact W.lret (free := fun q => bb B ≤ q) hO.1 hO.2.1 (hO.2.2.2.1.trans hr) (fun t ht hW => ⟨_, σ, rfl, hp, by rw [ht]; exact hH⟩) hL hd hO.2.2.2.2.2.2.1
theorem V.vret {post : Option Value → Mem → Prop} (hr : μ.2.2.2 = none) (hd : decode μ.2.1 pc = .ok (.return_, 1)) (hp : post none σ) : V B Y μ d (QP B Y n kc ks post) kc ks n σ pc lv [] := by
  obtain ⟨p, e, R, s, m, args, below, meth, c⟩ := Y
  intro hO H locs ls hH hL hl
  exact W.vret (free := fun q => bb B ≤ q) hO.1 hO.2.1 (hO.2.2.2.1.trans hr) (fun t ht hW => ⟨_, σ, rfl, hp, by rw [ht]; exact hH⟩) hL hd hO.2.2.2.2.2.2.1
theorem V.aret {post : Option Value → Mem → Prop} {a : Nat} {rt : FieldType} (hr : μ.2.2.2 = some rt) (hrt : (∃ n, rt = .object n) ∨ ∃ t, rt = .array t) (hd : decode μ.2.1 pc = .ok (.areturn, 1)) (hp : post (some (.ref a)) σ) : V B Y μ d (QP B Y n kc ks post) kc ks n σ pc lv [.ref a] := by
  obtain ⟨p, e, R, s, m, args, below, meth, c⟩ := Y
  intro hO H locs ls hH hL hl
  exact W.aret (free := fun q => bb B ≤ q) hO.1 hO.2.1 (hO.2.2.2.1.trans hr) hrt (Or.inr ⟨a, rfl⟩) (fun t ht hW => ⟨_, σ, rfl, hp, by rw [ht]; exact hH⟩) hL hd hO.2.2.2.2.2.2.1
theorem Ct.of {as : List Value} {mc ms : Nat} {post : Option Value → Mem → Prop} (hpl : plainFor μ.1 = true) (hlen : (lg_sl as).length ≤ μ.2.2.1) (body : ∀ Y : YX, V B Y μ d (QP B Y (n + mc) mc ms post) 0 0 n σ 0 (lv_args 0 as) []) : Ct B d μ as n σ mc ms post := by
  refine metF (cc := μ.2.1) (maxL := μ.2.2.1) (ret := μ.2.2.2) hpl rfl ?_
  intro p e s m args below meth c s₁ D hml hv
  obtain ⟨rfl, hH, hK⟩ := hv
  have hts := atoms_spec (ws := wsM μ) D.pre
  have h := body (p, e, (headSpec (wsM μ) (rmD d mc ms)).room, s, m, as.toArray, below, meth, c) ⟨D.exec, D.bytes, hml, D.returns, findClass_of_methodNamed D.named, fun w hw => hts w (List.mem_cons_of_mem _ hw), D.notSynchronized, hK, ⟨Nat.le_refl _, Nat.le_refl _⟩, (name_of_methodNamed D.named D.method).1, hH.2.1, by rw [hH.1]; exact Nat.le_add_right _ _⟩ s.heap [] _ hH (fun q hq => by cases hq) (lv_entry as hlen)
  rw [lg_entry_eq]
  exact h
/-- what the tables say of a method that is called -/
def MOk (μ : MI) (np : Nat) : Prop := Cond.code μ.1 μ.2.1 μ.2.2.1 μ.2.2.2 ∈ tblG ∧ Cond.initialized μ.1.cls ∈ tblG ∧ (μ.1.cls ≠ "java/lang/invoke/MethodHandle" ∧ μ.1.cls ≠ "java/lang/invoke/VarHandle") ∧ (parseMethodDescriptor μ.1.desc).map (fun d => d.parameters.length) = some np ∧ μ.2.2.1 ≤ 41
def IOk (μ : MI) : Prop := Cond.instanceMethod μ.1 ∈ tblG ∧ Cond.selects μ.1.cls μ.1 μ.1 ∈ tblG
theorem Kn.calling {U : State} {g : JFrame} {mk : MethodId} {a : Array Value} (h : Kn B U) : Kn B (U.calling g mk a) :=
  ⟨va_K.moved (u := U) (U := U.calling g mk a) (Vm.Alike.refl U.vm) h.1, fun w hw => va_Nw.same (by simp only [nestW, List.mem_cons, List.not_mem_nil, or_false] at hw; rcases hw with rfl | rfl | rfl | rfl | rfl | rfl | rfl | rfl | rfl | rfl | rfl | rfl | rfl | rfl <;> rfl) (u := U) (U := U.calling g mk a) rfl (h.2.1 w hw), fun i hi => vk_R.same (u := U) (U := U.calling g mk a) rfl (h.2.2.1 i hi), vk_S.moved (u := U) (U := U.calling g mk a) (Vm.Alike.refl U.vm) h.2.2.2.1, va_Z.moved (u := U) (U := U.calling g mk a) (Vm.Alike.refl U.vm) h.2.2.2.2⟩
theorem Kn.moved {s U : State} {H : Heap} (h : Kn B s) (hW : s.WarmedH U.vm) (hU : U.heap = H) (hb : ∀ q : Nat, q < bb B → s.heap[q]? = (bH B)[q]?) (hq : ∀ q : Nat, q < bb B → H[q]? = (bH B)[q]?) : Kn B U := by
  refine ⟨va_K.moved hW.alike h.1, nestW_warm hW h.2.1, fun i hi => vk_R.warm hW (h.2.2.1 i hi), ?_⟩
  rw [hU]
  exact ⟨(vk_S.moved hW.alike h.2.2.2.1).kept (fun a _ ha => by rw [hb a (Nat.not_le.mp ha), hq a (Nat.not_le.mp ha)]), (va_Z.moved hW.alike h.2.2.2.2).kept (fun a _ ha => by rw [hb a (Nat.not_le.mp ha), hq a (Nat.not_le.mp ha)])⟩
theorem blind (as : List Value) : FrameBlind (va_Pc as (fun U => Hd B n σ U.heap ∧ Kn B U)) := by
  intro a U g mk h
  exact ⟨h.1, h.2.1, h.2.2.calling⟩
theorem ws_pay {s : State} {args : Array Value} {μ' : MI} {np : Nat} (hts : ∀ w ∈ tblG, w.before args s = true) (hm : MOk μ' np) : ∀ w ∈ wsM μ', ∀ (a' : Array Value) (U : State), s.WarmedH U.vm → w.before a' U = true := by
  refine pay_in hts ?_
  intro w hw
  rcases List.mem_cons.mp hw with rfl | h
  · exact ⟨hm.1, tblGood _ hm.1⟩
  · exact ⟨h, tblGood _ h⟩
theorem callB_ok {p : Program} {R : Room} {s : State} {m : MethodId} {args : Array Value} {meth : Method} {c : Code} {μ' : MI} {np ix d' mc ms : Nat} (hO : Ok B p R s m args meth c μ d) (hm : MOk μ' np) (hl : Cond.methodLink μ.1.cls ix μ'.1 ∈ tblG) (hdd : d' + 1 ≤ d) : CallB R s args μ.1.cls ix μ'.1 μ'.2.1 μ'.2.2.1 μ'.2.2.2 (wsM μ') (rmD d' mc ms) mc ms np := by
  obtain ⟨-, -, -, -, -, hts, -, -, ⟨hf, hlo⟩, -⟩ := hO
  refine ⟨rfl, rfl, Nat.le_trans hdd hf, ?_, ws_pay hts hm, List.mem_cons_self, hts _ hm.1, hts _ hm.2.1, hm.2.2.1, fun sig h => ?_, hts _ hl⟩
  · have h1 := hm.2.2.2.2
    show 8 + (μ'.2.2.1 + 11) + 60 * d' ≤ R.locals
    omega
  · have h2 := hm.2.2.2.1
    rw [h] at h2
    exact (Option.some.inj h2).symm
theorem callN_ok {p : Program} {R : Room} {s : State} {m : MethodId} {args : Array Value} {meth : Method} {c : Code} {μ' : MI} {np ix d' mc ms : Nat} {host : String} (hO : Ok B p R s m args meth c μ d) (hm : MOk μ' np) (hl : Cond.methodLinkNest μ.1.cls ix μ'.1 host ∈ nestW) (hdd : d' + 1 ≤ d) : va_CN R s args μ.1.cls ix μ'.1 host μ'.2.1 μ'.2.2.1 μ'.2.2.2 (wsM μ') (rmD d' mc ms) mc ms np := by
  obtain ⟨-, -, -, -, -, hts, -, hKn, ⟨hf, hlo⟩, -⟩ := hO
  refine ⟨⟨rfl, rfl, Nat.le_trans hdd hf, ?_, ws_pay hts hm, List.mem_cons_self⟩, hts _ hm.1, hts _ hm.2.1, hm.2.2.1, fun sig h => ?_, va_Nw.use rfl (hKn.2.1 _ hl)⟩
  · have h1 := hm.2.2.2.2
    show 8 + (μ'.2.2.1 + 11) + 60 * d' ≤ R.locals
    omega
  · have h2 := hm.2.2.2.1
    rw [h] at h2
    exact (Option.some.inj h2).symm
/-- behind a call -/
theorem V.back {p : Program} {e : Env} {R : Room} {s : State} {m : MethodId} {args : Array Value} {below : List Frame} {meth : Method} {c : Code} {H : Heap} {locs : List Loc} {ls : Array Slot} {st0 : List Value} {mc ms : Nat} {a : Array Value} {post : Option Value → Mem → Prop}
    (hr : va_Run p (bl B) e R s m args below meth c H locs kc ks mc ms (F0 m pc ls st0) st (Qc B (n + mc) post a) (fun q => bb B ≤ q)) (hO : Ok B p R s m args meth c μ d) (hL : ∀ q ∈ locs, bb B ≤ q.base) (hl : lv_has ls μ.2.2.1 lv)
    (K : ∀ (v : Option Value) (σ' : Mem), post v σ' → V B (p, e, R, s, m, args, below, meth, c) μ d Q (kc + mc) (ks + ms) (n + mc) σ' (pc + 3) lv (v.toList ++ st)) : W p (bl B) e R s m args below meth c H locs kc ks Q (F0 m pc ls st0) := by
  intro T hT X
  obtain ⟨v, st₀, t, T', L, h0, X', hL', e1, e2, ⟨v', σ', hv, hp, hH⟩, stp⟩ := hr T hT X
  cases hv
  obtain ⟨t2, a1, b1⟩ := K v σ' hp hO T'.heap (locs ++ L) ls (by rw [e1]; exact hH) (fun q hq => by
    rcases List.mem_append.mp hq with h | h
    · exact hL q h
    · exact hL' q h) hl T' rfl X'
  exact ⟨t2, stp t2 a1, b1⟩
theorem V.callV {μ' : MI} {np ix d' mc ms k ci : Nat} {T : u_T} {N : Nat} {fk : List Nat} {as st0 : List Value} {post : Option Value → Mem → Prop} (hM : Ct B d' μ' (.ref (ad (bb B) k) :: as) n σ mc ms post) (hm : MOk μ' np) (hv : IOk μ') (hl : Cond.methodLink μ.1.cls ix μ'.1 ∈ tblG) (hdd : d' + 1 ≤ d) (hn : as.length = np) (hk : k < n) (hy : bY B k = .inr (ci, fk)) (hC : classes[ci]? = some (μ'.1.cls, T, N)) (hs : st0 = as.reverse ++ .ref (ad (bb B) k) :: st) (hW : (st.map fun v => v.category).sum ≤ 8) (hb : ∀ R : Room, Y.2.2.1 = R → kc + mc ≤ R.cells ∧ ks + ms ≤ R.slots) (hd : decode μ.2.1 pc = .ok (.invokevirtual ix, 3))
    (K : ∀ (v : Option Value) (σ' : Mem), post v σ' → V B Y μ d Q (kc + mc) (ks + ms) (n + mc) σ' (pc + 3) lv (v.toList ++ st)) : V B Y μ d Q kc ks n σ pc lv st0 := by
  obtain ⟨p, e, R, s, m, args, below, meth, c⟩ := Y
  intro hO H locs ls hH hL hl'
  have h1 := hH.2.2 k hk
  unfold cellV at h1
  rw [hy] at h1
  obtain ⟨q', h2, cell, g1, g2, g3, -⟩ := h1
  have hq : q' = (μ'.1.cls, T, N) := Option.some.inj (h2.symm.trans hC)
  subst hq
  have hrun := va_runV (cells := kc) (slots := ks) (locs := locs) (e := e) (below := below) (meth := meth) (g := F0 m pc ls st0) (rest := st) (As := as) (b := ad (bb B) k) (H := H) (C := μ'.1.cls) (Ts := tblG) ⟨hO.1, hO.2.1, hO.2.2.1, hO.2.2.2.2.1, hO.2.2.2.2.2.1⟩ hM ⟨callB_ok hO hm hl hdd, hO.2.2.2.2.2.1 _ hv.1, hO.2.2.2.2.2.1 _ hv.2⟩
    ⟨blind _, ⟨cell, g1, by rw [g3]; rfl, by rw [g2]; exact (hO.2.2.2.2.2.2.2.1.1.1 ci _ hC).2.1⟩, fun U hU hW' => ⟨rfl, by rw [hU]; exact hH, hO.2.2.2.2.2.2.2.1.moved hW' hU hO.2.2.2.2.2.2.2.2.2.2.1 hH.2.1⟩⟩ rfl hn hl'.1 hs (lv_room hW) hd (hb R rfl)
  exact V.back hrun hO hL hl' K
theorem V.callS {μ' : MI} {np ix d' mc ms : Nat} {as st0 : List Value} {post : Option Value → Mem → Prop} (hM : Ct B d' μ' as n σ mc ms post) (hm : MOk μ' np) (hv : Cond.static μ'.1 ∈ tblG) (hl : Cond.methodLink μ.1.cls ix μ'.1 ∈ tblG) (hdd : d' + 1 ≤ d) (hn : as.length = np) (hs : st0 = as.reverse ++ st) (hW : (st.map fun v => v.category).sum ≤ 8) (hb : ∀ R : Room, Y.2.2.1 = R → kc + mc ≤ R.cells ∧ ks + ms ≤ R.slots) (hd : decode μ.2.1 pc = .ok (.invokestatic ix, 3))
    (K : ∀ (v : Option Value) (σ' : Mem), post v σ' → V B Y μ d Q (kc + mc) (ks + ms) (n + mc) σ' (pc + 3) lv (v.toList ++ st)) : V B Y μ d Q kc ks n σ pc lv st0 := by
  obtain ⟨p, e, R, s, m, args, below, meth, c⟩ := Y
  intro hO H locs ls hH hL hl'
  have hrun := va_runS (cells := kc) (slots := ks) (locs := locs) (e := e) (below := below) (meth := meth) (g := F0 m pc ls st0) (rest := st) (As := as) (H := H) (Ts := tblG) ⟨hO.1, hO.2.1, hO.2.2.1, hO.2.2.2.2.1, hO.2.2.2.2.2.1⟩ hM ⟨callB_ok hO hm hl hdd, hO.2.2.2.2.2.1 _ hv⟩
    ⟨blind _, fun U hU hW' => ⟨rfl, by rw [hU]; exact hH, hO.2.2.2.2.2.2.2.1.moved hW' hU hO.2.2.2.2.2.2.2.2.2.2.1 hH.2.1⟩⟩ rfl hn hl'.1 hs (lv_room hW) hd (hb R rfl)
  exact V.back hrun hO hL hl' K
theorem V.callSN {μ' : MI} {np ix d' mc ms : Nat} {host : String} {as st0 : List Value} {post : Option Value → Mem → Prop} (hM : Ct B d' μ' as n σ mc ms post) (hm : MOk μ' np) (hv : Cond.static μ'.1 ∈ tblG) (hl : Cond.methodLinkNest μ.1.cls ix μ'.1 host ∈ nestW) (hdd : d' + 1 ≤ d) (hn : as.length = np) (hs : st0 = as.reverse ++ st) (hW : (st.map fun v => v.category).sum ≤ 8) (hb : ∀ R : Room, Y.2.2.1 = R → kc + mc ≤ R.cells ∧ ks + ms ≤ R.slots) (hd : decode μ.2.1 pc = .ok (.invokestatic ix, 3))
    (K : ∀ (v : Option Value) (σ' : Mem), post v σ' → V B Y μ d Q (kc + mc) (ks + ms) (n + mc) σ' (pc + 3) lv (v.toList ++ st)) : V B Y μ d Q kc ks n σ pc lv st0 := by
  obtain ⟨p, e, R, s, m, args, below, meth, c⟩ := Y
  intro hO H locs ls hH hL hl'
  have hrun := va_runSN (cells := kc) (slots := ks) (locs := locs) (e := e) (below := below) (meth := meth) (g := F0 m pc ls st0) (rest := st) (As := as) (H := H) (Ts := tblG) ⟨hO.1, hO.2.1, hO.2.2.1, hO.2.2.2.2.1, hO.2.2.2.2.2.1⟩ hM ⟨callN_ok hO hm hl hdd, hO.2.2.2.2.2.1 _ hv, trivial⟩
    ⟨blind _, fun U hU hW' => ⟨rfl, by rw [hU]; exact hH, hO.2.2.2.2.2.2.2.1.moved hW' hU hO.2.2.2.2.2.2.2.2.2.2.1 hH.2.1⟩⟩ rfl hn hl'.1 hs (lv_room hW) hd (hb R rfl)
  exact V.back hrun hO hL hl' K
end VC
