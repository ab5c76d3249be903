-- ===== rows for what makes cells: the constructors =====
def zr (σ : Mem) (k : Nat) : Mem := (up1 σ.1 k (fun _ => 0), up1 σ.2.1 k (fun _ => 0), up1 σ.2.2 k (fun _ => 0))
theorem mI_zr (σ : Mem) (k : Nat) : mI (zr σ k) k = fun _ => 0 := up1_s _ _ _
theorem mL_zr (σ : Mem) (k : Nat) : mL (zr σ k) k = fun _ => 0 := up1_s _ _ _
theorem mR_zr (σ : Mem) (k : Nat) : mR (zr σ k) k = fun _ => 0 := up1_s _ _ _
theorem cellV_zr {B : BX} {σ : Mem} {k a : Nat} (h : a ≠ k) : cellV B (zr σ k) a = cellV B σ a := by
  unfold cellV
  rw [show mI (zr σ k) a = mI σ a from up1_n _ _ h, show mL (zr σ k) a = mL σ a from up1_n _ _ h, show mR (zr σ k) a = mR σ a from up1_n _ _ h]
theorem Hd.push {B : BX} {n : Nat} {σ : Mem} {H H' : Heap} (h : Hd B n σ H) (hz : H'.size = H.size + 1) (ho : ∀ q : Nat, q < H.size → H'[q]? = H[q]?) (hk : va_at (bD B) classes (ad (bb B) n, cellV B (zr σ n) n) H') : Hd B (n + 1) (zr σ n) H' := by
  obtain ⟨h1, h2, h3⟩ := h
  refine ⟨by rw [hz, h1]; rfl, fun q hq => ?_, fun a ha => ?_⟩
  · rw [ho q (by omega)]; exact h2 q hq
  · by_cases e : a = n
    · subst e; exact hk
    · rw [cellV_zr e]
      exact (h3 a (by omega)).kept (ho _ (by unfold ad; omega))
section VN
variable {B : BX} {Z : ZX} {Y : YX} {μ : MI} {d : Nat} {Q : State → Prop} {kc ks n : Nat} {σ : Mem} {pc : Nat} {lv : List (Nat × Value)} {st : List Value}
theorem Ct.ofM {as : List Value} {mc ms : Nat} {post : Option Value → Mem → Prop} (hpl : plainFor μ.1 = true) (hlen : (lg_sl as).length ≤ μ.2.2.1) (body : ∀ Y : YX, Y.2.2.1 = rmD d mc ms → V B Y μ d (QP B Y (n + mc) mc ms post) 0 0 n σ 0 (lv_args 0 as) []) : Ct B d μ as n σ mc ms post := by
  refine metF (cc := μ.2.1) (maxL := μ.2.2.1) (ret := μ.2.2.2) hpl rfl ?_
  intro p e s m args below meth c s₁ D hml hv
  obtain ⟨rfl, hH, hK⟩ := hv
  have hts := atoms_spec (ws := wsM μ) D.pre
  have h := body (p, e, (headSpec (wsM μ) (rmD d mc ms)).room, s, m, as.toArray, below, meth, c) rfl ⟨D.exec, D.bytes, hml, D.returns, findClass_of_methodNamed D.named, fun w hw => hts w (List.mem_cons_of_mem _ hw), D.notSynchronized, hK, ⟨Nat.le_refl _, Nat.le_refl _⟩, (name_of_methodNamed D.named D.method).1, hH.2.1, by rw [hH.1]; exact Nat.le_add_right _ _⟩ s.heap [] _ hH (fun q hq => by cases hq) (lv_entry as hlen)
  rw [lg_entry_eq]
  exact h
theorem V.newO {ci : Nat} {C : String} {T : u_T} {N : Nat} {ty : Nat → FieldType} {ix : Nat} {fk : List Nat} (hC : ClsOk ci C T N ty) (hw : Cond.classLink μ.1.cls ix C ∈ tblG) (hi : Cond.instantiable C N ∈ tblG) (hn : Cond.initialized C ∈ tblG) (hy : bY B n = .inr (ci, fk)) (hf : ∀ j, j < N → defaultValue (ty j) = vp_V (fvs (bb B) (fun _ => 0) (fun _ => 0) (fun _ => 0) 0 fk) j) (hr : ∀ R : Room, Y.2.2.1 = R → kc + 1 ≤ R.cells ∧ ks + N ≤ R.slots) (hd : decode μ.2.1 pc = .ok (.new ix, 3))
    (K : V B Y μ d Q (kc + 1) (ks + N) (n + 1) (zr σ n) (pc + 3) lv (.ref (ad (bb B) n) :: st)) : V B Y μ d Q kc ks n σ pc lv st := by
  obtain ⟨p, e, R, s, m, args, below, meth, c⟩ := Y
  intro hO H locs ls hH hL hl
  have hO' := hO
  obtain ⟨hx, hb, hml, hr', hown, hts, hlk, hKn, -⟩ := hO
  obtain ⟨hc, hin, hty, hnm⟩ := hC
  have hKc := hKn.1.1 ci _ hc
  refine W.newcK hx hb hown (hts _ hw) (hts _ hi) (hts _ hn) rfl hd (hr R rfl).1 (hr R rfl).2 hKc.2.1 hH.1 fun H1 kC hkC e1 z1 o1 => ?_
  refine K hO' H1 locs ls (hH.push (by rw [z1, hH.1]) (fun q hq => o1 q (by rw [hH.1] at hq; exact hq)) ?_) hL hl
  unfold cellV
  rw [hy, mI_zr, mL_zr, mR_zr]
  exact ⟨_, hc, (u_born ty hts hin hKc hkC e1 hty).to hf⟩
theorem V.newA {atype : ArrayType} {ty : FieldType} {t : Nat} {x : Int32} {N : Nat} (hty : newarray.typeOf atype = ty) (hw : Cond.arrayClass (newarray.typeOf atype) ∈ tblG) (ht : (tysB B)[t]? = some (bT B ty, ty)) (hra : ∀ U : State, va_RA U (bT B ty) ty → U.vm.findClass ("[" ++ ty.toString) = some (bT B ty)) (hy : bY B n = .inl (ty, N)) (hz : ∀ cA : ClassId, vp_cell cA (arrE ty N (fun _ => 0) (fun _ => 0)) = arrV cA N (fun _ => defaultValue ty)) (h0 : ¬ x < 0) (hN : x.toNatClampNeg = N) (hby : N * componentBytes ty ≤ 536870912) (hr : ∀ R : Room, Y.2.2.1 = R → kc + 1 ≤ R.cells ∧ ks + N ≤ R.slots) (hd : decode μ.2.1 pc = .ok (.newarray atype, 2))
    (K : V B Y μ d Q (kc + 1) (ks + N) (n + 1) (zr σ n) (pc + 2) lv (.ref (ad (bb B) n) :: st)) : V B Y μ d Q kc ks n σ pc lv (.int x :: st) := by
  obtain ⟨p, e, R, s, m, args, below, meth, c⟩ := Y
  intro hO H locs ls hH hL hl
  subst hty
  refine va_newaK hO.1 hO.2.1 (hO.2.2.2.2.2.1 _ hw) rfl hd rfl h0 hN hby (hr R rfl).1 (hr R rfl).2 hH.1 fun H1 cA e1 z1 o1 hAr hNm => ?_
  have hA : cA = bT B (newarray.typeOf atype) := Option.some.inj (hNm.symm.trans (hra s (hO.2.2.2.2.2.2.2.1.1.2 t _ ht).2))
  refine K hO H1 locs ls (hH.push (by rw [z1, hH.1]) (fun q hq => o1 q (by rw [hH.1] at hq; exact hq)) ?_) hL hl
  unfold cellV
  rw [hy, mI_zr, mL_zr, mR_zr]
  show H1[_]? = some (vp_cell _ _)
  rw [hz, ← hA]
  exact e1
/-- a final field that holds a cell, in the constructor -/
theorem V.putF {ci : Nat} {C : String} {T : u_T} {N : Nat} {ty : Nat → FieldType} {j ix k r : Nat} {fk : List Nat} (hC : ClsOk ci C T N ty) (hF : FL μ.1.cls ix T j) (hj : j < N) (hk : k < n) (hy : bY B k = .inr (ci, fk)) (ht : fk[j]? = some 2) (hfin : (T j).2.2.2 = true) (hin2 : μ.1.name = "<init>") (hdecl : (T j).1 = μ.1.cls) (hn : ∀ a, narrow (ty j) (.ref a) = .ref a) (hfit : ∀ a, fits (ty j) (.ref a) = true) (hd : decode μ.2.1 pc = .ok (.putfield ix, 3))
    (K : V B Y μ d Q kc ks n (sR σ k j (r + 1)) (pc + 3) lv st) : V B Y μ d Q kc ks n σ pc lv (.ref (ad (bb B) r) :: .ref (ad (bb B) k) :: st) := by
  obtain ⟨p, e, R, s, m, args, below, meth, c⟩ := Y
  intro hO H locs ls hH hL hl
  have hO' := hO
  obtain ⟨hx, hb, hml, hr, hown, hts, hlk, hKn, -, hname, -⟩ := hO
  have h1 := hH.2.2 k hk
  unfold cellV at h1
  rw [hy] at h1
  obtain ⟨hc, hin, hty, hnm⟩ := hC
  have hap := va_apart (own := C) hts hin ty hty hnm hKn.1 hc
  obtain ⟨r', h2, cell, q1, q2, q3, q4⟩ := h1
  have hr' : r' = (C, T, N) := Option.some.inj (h2.symm.trans hc)
  subst hr'
  obtain ⟨hS, hfc, kC, hkC, hkind⟩ := hKn.1.1 ci _ hc
  obtain ⟨cf, kf, fi, f, hi, hsl⟩ := hS j hj
  have hlay := hts _ (hin _ (u_in_lay hj))
  unfold u_lay at hlay
  rw [if_pos hfin] at hlay
  have hst := (u_facts hfc hkC (u_lays hts hin hj) hi).1
  have hcf : m.cls = cf := by
    obtain ⟨_, _, c', _, _, _, -, -, hf', -, -, -, hown2, -⟩ := Cond.laysFinal_spec hlay
    have e1 : c' = cf := by have := hi.symm.trans hf'; simp at this; exact this.1.symm
    rw [hdecl] at hown2
    rw [← e1]; exact Option.some.inj (hown.symm.trans hown2)
  have h6 := u_fits hfc hkC hkind (Or.inr hlay) hi (hty j hj) (hn (ad (bb B) r)) (hfit (ad (bb B) r))
  have hlen : j < fk.length := (List.getElem?_eq_some_iff.mp ht).1
  have hs1 : fvs (bb B) (mI (sR σ k j (r + 1)) k) (mL (sR σ k j (r + 1)) k) (mR (sR σ k j (r + 1)) k) 0 fk = (fvs (bb B) (mI σ k) (mL σ k) (mR σ k) 0 fk).set j (.ref (ad (bb B) r)) := fvs_set (fun t h => by rw [ht] at h; cases h; simp [fv, mR_sR, up1]) (fun i hi => ⟨rfl, rfl, by rw [mR_sR, up1_n _ _ hi]⟩)
  refine W.putFinK hx hb hown (hts _ hF) hi hst hcf (hname.trans hin2) (by rw [q2]; exact h6) q1 q3 (by rw [hsl]; exact k2_hasslot (q4 j hj)) rfl rfl hd fun H' e1 e2 e3 => ?_
  rw [hsl] at e1 ⊢
  refine K hO' H' _ ls (hH.set e2 e3 ?_ (fun a h => cellV_sR h)) (loc_add hL (Nat.le_add_right _ _)) hl
  unfold cellV
  rw [hy]
  refine ⟨_, hc, ?_⟩
  show t_OB _ _ _ _ _ (vp_V (fvs (bb B) (mI (sR σ k j (r + 1)) k) (mL (sR σ k j (r + 1)) k) (mR (sR σ k j (r + 1)) k) 0 fk))
  rw [hs1]
  exact t_OB.to (V := updV (vp_V (fvs (bb B) (mI σ k) (mL σ k) (mR σ k) 0 fk)) j (.ref (ad (bb B) r))) ⟨_, e1, q2, q3, t_set q4 hap hj _⟩ (fun i _ => vp_updV_set (by rw [fvs_len]; exact hlen) _ i)
theorem oi_ok : Cond.instanceMethod objectInit ∈ tblG ∧ Cond.code objectInit ⟨#[0xb1]⟩ 1 none ∈ tblG := ⟨inG (by decide +kernel) rfl, inG (by decide +kernel) rfl⟩
theorem V.oinit {a ix : Nat} (hl : Cond.methodLink μ.1.cls ix objectInit ∈ tblG) (hdd : 1 ≤ d) (hW : (st.map fun v => v.category).sum ≤ 8) (hd : decode μ.2.1 pc = .ok (.invokespecial ix, 3)) (K : V B Y μ d Q kc ks n σ (pc + 3) lv st) : V B Y μ d Q kc ks n σ pc lv (.ref a :: st) := by
  obtain ⟨p, e, R, s, m, args, below, meth, c⟩ := Y
  intro hO H locs ls hH hL hl'
  have h1 := hO.2.2.2.2.2.2.2.2.1
  exact W.objInit hO.1 hO.2.1 hO.2.2.2.2.1 (hO.2.2.2.2.2.1 _ hl) (hO.2.2.2.2.2.1 _ oi_ok.1) (hO.2.2.2.2.2.1 _ oi_ok.2) rfl (by rw [hO.2.2.1]; exact hl'.1) rfl hd (Nat.le_trans hdd h1.1) (by
    show 2 * 0 + _ + 12 ≤ _
    omega) (K hO H locs ls hH hL hl')
theorem V.callI {μ' : MI} {np ix d' mc ms a : Nat} {as st0 : List Value} {post : Option Value → Mem → Prop} (hM : Ct B d' μ' (.ref a :: as) n σ mc ms post) (hm : MOk μ' np) (hv : Cond.instanceMethod μ'.1 ∈ tblG) (hi : μ'.1.name = "<init>") (hrn : μ'.2.2.2 = none) (hl : Cond.methodLink μ.1.cls ix μ'.1 ∈ tblG) (hdd : d' + 1 ≤ d) (hn : as.length = np) (hs : st0 = as.reverse ++ .ref a :: st) (hW : (st.map fun v => v.category).sum ≤ 8) (hb : ∀ R : Room, Y.2.2.1 = R → kc + mc ≤ R.cells ∧ ks + ms ≤ R.slots) (hd : decode μ.2.1 pc = .ok (.invokespecial ix, 3))
    (K : ∀ (v : Option Value) (σ' : Mem), post v σ' → V B Y μ d Q (kc + mc) (ks + ms) (n + mc) σ' (pc + 3) lv (v.toList ++ st)) : V B Y μ d Q kc ks n σ pc lv st0 := by
  obtain ⟨p, e, R, s, m, args, below, meth, c⟩ := Y
  intro hO H locs ls hH hL hl'
  have hcb := callB_ok (mc := mc) (ms := ms) hO hm hl hdd
  rw [hrn] at hcb
  have hrun := va_runI (cells := kc) (slots := ks) (locs := locs) (e := e) (below := below) (meth := meth) (g := F0 m pc ls st0) (rest := st) (As := as) (b := a) (H := H) (Ts := tblG) ⟨hO.1, hO.2.1, hO.2.2.1, hO.2.2.2.2.1, hO.2.2.2.2.2.1⟩ hM ⟨hcb, hi, hO.2.2.2.2.2.1 _ hv⟩
    ⟨blind _, fun U hU hW' => ⟨rfl, by rw [hU]; exact hH, hO.2.2.2.2.2.2.2.1.moved hW' hU hO.2.2.2.2.2.2.2.2.2.2.1 hH.2.1⟩⟩ rfl hn hl'.1 hs (lv_room hW) hd (hb R rfl)
  exact V.back hrun hO hL hl' K
theorem V.callIN {μ' : MI} {np ix d' mc ms a : Nat} {host : String} {as st0 : List Value} {post : Option Value → Mem → Prop} (hM : Ct B d' μ' (.ref a :: as) n σ mc ms post) (hm : MOk μ' np) (hv : Cond.instanceMethod μ'.1 ∈ tblG) (hi : μ'.1.name = "<init>") (hrn : μ'.2.2.2 = none) (hl : Cond.methodLinkNest μ.1.cls ix μ'.1 host ∈ nestW) (hdd : d' + 1 ≤ d) (hn : as.length = np) (hs : st0 = as.reverse ++ .ref a :: st) (hW : (st.map fun v => v.category).sum ≤ 8) (hb : ∀ R : Room, Y.2.2.1 = R → kc + mc ≤ R.cells ∧ ks + ms ≤ R.slots) (hd : decode μ.2.1 pc = .ok (.invokespecial ix, 3))
    (K : ∀ (v : Option Value) (σ' : Mem), post v σ' → V B Y μ d Q (kc + mc) (ks + ms) (n + mc) σ' (pc + 3) lv (v.toList ++ st)) : V B Y μ d Q kc ks n σ pc lv st0 := by
  obtain ⟨p, e, R, s, m, args, below, meth, c⟩ := Y
  intro hO H locs ls hH hL hl'
  have hcb := callN_ok (mc := mc) (ms := ms) hO hm hl hdd
  rw [hrn] at hcb
  have hrun := va_runIN (cells := kc) (slots := ks) (locs := locs) (e := e) (below := below) (meth := meth) (g := F0 m pc ls st0) (rest := st) (As := as) (b := a) (H := H) (Ts := tblG) ⟨hO.1, hO.2.1, hO.2.2.1, hO.2.2.2.2.1, hO.2.2.2.2.2.1⟩ hM ⟨hcb, hi, hO.2.2.2.2.2.1 _ hv⟩
    ⟨blind _, fun U hU hW' => ⟨rfl, by rw [hU]; exact hH, hO.2.2.2.2.2.2.2.1.moved hW' hU hO.2.2.2.2.2.2.2.2.2.2.1 hH.2.1⟩⟩ rfl hn hl'.1 hs (lv_room hW) hd (hb R rfl)
  exact V.back hrun hO hL hl' K
/-- the same cells by another layout -/
theorem V.lay {B' : BX} (h1 : ∀ H : Heap, Hd B n σ H → Hd B' n σ H) (hb : bl B' = bl B ∧ bb B' = bb B ∧ bH B' = bH B) (hk : ∀ U : State, Kn B U → Kn B' U) (K : V B' Y μ d Q kc ks n σ pc lv st) : V B Y μ d Q kc ks n σ pc lv st := by
  obtain ⟨p, e, R, s, m, args, below, meth, c⟩ := Y
  intro hO H locs ls hH hL hl
  obtain ⟨e1, e2, e3⟩ := hb
  have h := K ⟨hO.1, hO.2.1, hO.2.2.1, hO.2.2.2.1, hO.2.2.2.2.1, hO.2.2.2.2.2.1, hO.2.2.2.2.2.2.1, hk s hO.2.2.2.2.2.2.2.1, hO.2.2.2.2.2.2.2.2.1, hO.2.2.2.2.2.2.2.2.2.1, by rw [e2, e3]; exact hO.2.2.2.2.2.2.2.2.2.2.1, by rw [e2]; exact hO.2.2.2.2.2.2.2.2.2.2.2⟩ H locs ls (h1 H hH) (by rw [e2]; exact hL) hl
  rw [e1] at h
  exact h
end VN
