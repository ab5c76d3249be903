-- ===== rows of V that read and write the memory; calls; returns; contracts =====
/-- the word of a field's link, by the class table -/
def FL (own : String) (ix : Nat) (T : u_T) (j : Nat) : Prop := Cond.fieldLink own ix (T j).1 (T j).2.1 (T j).2.2.1 ∈ tblG
section VH
variable {B : BX} {Y : YX} {μ : MI} {d : Nat} {Q : State → Prop} {kc ks n : Nat} {σ : Mem} {pc : Nat} {lv : List (Nat × Value)} {st : List Value}
theorem V.getf {ci : Nat} {C : String} {T : u_T} {N : Nat} {ty : Nat → FieldType} {j ix k t : Nat} {fk : List Nat} (hC : ClsOk ci C T N ty) (hF : FL μ.1.cls ix T j) (hj : j < N) (hk : k < n) (hy : bY B k = .inr (ci, fk)) (ht : fk[j]? = some t) (hd : decode μ.2.1 pc = .ok (.getfield ix, 3))
    (K : V B Y μ d Q kc ks n σ (pc + 3) lv (fv (bb B) (mI σ k) (mL σ k) (mR σ k) j t :: st)) : V B Y μ d Q kc ks n σ pc lv (.ref (ad (bb B) k) :: st) := by
  obtain ⟨p, e, R, s, m, args, below, meth, c⟩ := Y
  intro hO H locs ls hH hL hl
  have kk := K hO H locs ls hH hL hl
  obtain ⟨hx, hb, hml, hr, hown, hts, hlk, hKn, -⟩ := hO
  have h1 := hH.2.2 k hk
  unfold cellV at h1
  rw [hy] at h1
  have hP : va_P (bD B) classes [(ad (bb B) k, cellR B (.inr (ci, fk)) (mI σ k) (mL σ k) (mR σ k))] H := fun i q hq => by
    cases i with
    | zero => cases hq; exact h1
    | succ i => simp at hq
  exact va_get (D := bD B) (cl := classes) (tys := tysB B) (C := C) (T := T) (N := N) (ci := ci) (fs := fvs (bb B) (mI σ k) (mL σ k) (mR σ k) 0 fk) hx hb hts hC.2.1 hown hKn.1 hP 0 rfl hC.1 j hj (hts _ hF) (fun _ h9 => h9) (by rw [fvs_get, ht, Nat.zero_add]; rfl) hd kk
theorem V.getI {ci : Nat} {C : String} {T : u_T} {N : Nat} {ty : Nat → FieldType} {j ix k : Nat} {fk : List Nat} (hC : ClsOk ci C T N ty) (hF : FL μ.1.cls ix T j) (hj : j < N) (hk : k < n) (hy : bY B k = .inr (ci, fk)) (ht : fk[j]? = some 0) (hd : decode μ.2.1 pc = .ok (.getfield ix, 3))
    (K : V B Y μ d Q kc ks n σ (pc + 3) lv (.int (mI σ k j) :: st)) : V B Y μ d Q kc ks n σ pc lv (.ref (ad (bb B) k) :: st) := V.getf hC hF hj hk hy ht hd K
theorem V.getL {ci : Nat} {C : String} {T : u_T} {N : Nat} {ty : Nat → FieldType} {j ix k : Nat} {fk : List Nat} (hC : ClsOk ci C T N ty) (hF : FL μ.1.cls ix T j) (hj : j < N) (hk : k < n) (hy : bY B k = .inr (ci, fk)) (ht : fk[j]? = some 1) (hd : decode μ.2.1 pc = .ok (.getfield ix, 3))
    (K : V B Y μ d Q kc ks n σ (pc + 3) lv (.long (mL σ k j) :: st)) : V B Y μ d Q kc ks n σ pc lv (.ref (ad (bb B) k) :: st) := V.getf hC hF hj hk hy ht hd K
theorem V.getR {ci : Nat} {C : String} {T : u_T} {N : Nat} {ty : Nat → FieldType} {j ix k r : Nat} {fk : List Nat} (hC : ClsOk ci C T N ty) (hF : FL μ.1.cls ix T j) (hj : j < N) (hk : k < n) (hy : bY B k = .inr (ci, fk)) (ht : fk[j]? = some (r + 3)) (hd : decode μ.2.1 pc = .ok (.getfield ix, 3))
    (K : V B Y μ d Q kc ks n σ (pc + 3) lv (.ref (ad (bb B) r) :: st)) : V B Y μ d Q kc ks n σ pc lv (.ref (ad (bb B) k) :: st) := V.getf hC hF hj hk hy ht hd K
/-- a reference that moves, now at the cell r -/
theorem V.getM {ci : Nat} {C : String} {T : u_T} {N : Nat} {ty : Nat → FieldType} {j ix k r : Nat} {fk : List Nat} (hC : ClsOk ci C T N ty) (hF : FL μ.1.cls ix T j) (hj : j < N) (hk : k < n) (hy : bY B k = .inr (ci, fk)) (ht : fk[j]? = some 2) (hr : mR σ k j = r + 1) (hd : decode μ.2.1 pc = .ok (.getfield ix, 3))
    (K : V B Y μ d Q kc ks n σ (pc + 3) lv (.ref (ad (bb B) r) :: st)) : V B Y μ d Q kc ks n σ pc lv (.ref (ad (bb B) k) :: st) := V.getf hC hF hj hk hy ht hd (by
  have e : fv (bb B) (mI σ k) (mL σ k) (mR σ k) j 2 = .ref (ad (bb B) r) := by simp only [fv, hr]
  rw [e]; exact K)
theorem fvs_set {b : Nat} {fi fi' : Nat → Int32} {fl fl' : Nat → Int64} {fr fr' : Nat → Nat} {j : Nat} {v : Value} {ks : List Nat} (h1 : ∀ t, ks[j]? = some t → fv b fi' fl' fr' j t = v) (h2 : ∀ i, i ≠ j → fi' i = fi i ∧ fl' i = fl i ∧ fr' i = fr i) : fvs b fi' fl' fr' 0 ks = (fvs b fi fl fr 0 ks).set j v := by
  apply List.ext_getElem?
  intro i
  rw [List.getElem?_set, fvs_get, fvs_get, fvs_len, Nat.zero_add]
  by_cases e : j = i
  · subst e
    rw [if_pos rfl]
    cases hq : ks[j]? with
    | none =>
      have := List.getElem?_eq_none_iff.mp hq
      rw [if_neg (by omega)]; rfl
    | some t =>
      have := (List.getElem?_eq_some_iff.mp hq).1
      rw [if_pos this]
      simp [h1 t hq]
  · rw [if_neg e]
    obtain ⟨a1, a2, a3⟩ := h2 i (fun z => e z.symm)
    cases ks[i]? with
    | none => rfl
    | some t => simp only [Option.map_some, fv, a1, a2, a3]
/-- a field is written: the general row -/
theorem V.putf {ci : Nat} {C : String} {T : u_T} {N : Nat} {ty : Nat → FieldType} {j ix k : Nat} {fk : List Nat} {v : Value} {σ' : Mem} (hC : ClsOk ci C T N ty) (hF : FL μ.1.cls ix T j) (hj : j < N) (hk : k < n) (hy : bY B k = .inr (ci, fk)) (hfin : (T j).2.2.2 = false) (hn : narrow (ty j) v = v) (hfit : fits (ty j) v = true) (hlen : j < fk.length)
    (hs1 : fvs (bb B) (mI σ' k) (mL σ' k) (mR σ' k) 0 fk = (fvs (bb B) (mI σ k) (mL σ k) (mR σ k) 0 fk).set j v) (hs2 : ∀ a, a ≠ k → cellV B σ' a = cellV B σ a) (hd : decode μ.2.1 pc = .ok (.putfield ix, 3))
    (K : V B Y μ d Q kc ks n σ' (pc + 3) lv st) : V B Y μ d Q kc ks n σ pc lv (v :: .ref (ad (bb B) k) :: st) := by
  obtain ⟨p, e, R, s, m, args, below, meth, c⟩ := Y
  intro hO H locs ls hH hL hl
  have hO' := hO
  obtain ⟨hx, hb, hml, hr, hown, hts, hlk, hKn, -⟩ := hO
  have h1 := hH.2.2 k hk
  unfold cellV at h1
  rw [hy] at h1
  obtain ⟨hc, hin, hty, hnm⟩ := hC
  have hap := va_apart (own := C) hts hin ty hty hnm hKn.1 hc
  obtain ⟨r, h2, cell, q1, q2, q3, q4⟩ := h1
  have hr' : r = (C, T, N) := Option.some.inj (h2.symm.trans hc)
  subst hr'
  obtain ⟨hS, hfc, kC, hkC, hkind⟩ := hKn.1.1 ci _ hc
  obtain ⟨cf, kf, fi, f, hi, hsl⟩ := hS j hj
  have hlay := hts _ (hin _ (u_in_lay hj))
  unfold u_lay at hlay
  rw [if_neg (by rw [hfin]; decide)] at hlay
  have hst := (u_facts hfc hkC (u_lays hts hin hj) hi).1
  have h6 := u_store hfc hkC hkind hlay hi (hty j hj) hn hfit
  refine W.putK hx hb (f := f) ⟨hown, hts _ hF, ⟨_, _, _, hi⟩, hst⟩ (by rw [q2]; exact h6) q1 q3 (by rw [hsl]; exact k2_hasslot (q4 j hj)) rfl rfl hd fun H' e1 e2 e3 => ?_
  rw [hsl] at e1 ⊢
  refine K hO' H' _ ls (hH.set e2 e3 ?_ hs2) ?_ hl
  · unfold cellV
    rw [hy]
    refine ⟨_, hc, ?_⟩
    show t_OB _ _ _ _ _ (vp_V (fvs (bb B) (mI σ' k) (mL σ' k) (mR σ' k) 0 fk))
    rw [hs1]
    exact t_OB.to (V := updV (vp_V (fvs (bb B) (mI σ k) (mL σ k) (mR σ k) 0 fk)) j v) ⟨_, e1, q2, q3, t_set q4 hap hj v⟩ (fun i _ => vp_updV_set (by rw [fvs_len]; exact hlen) v i)
  · intro q hq
    rcases List.mem_append.mp hq with h | h
    · exact hL q h
    · cases List.mem_singleton.mp h
      exact Nat.le_add_right _ _
theorem cellV_sI {B : BX} {σ : Mem} {k j a : Nat} {v : Int32} (h : a ≠ k) : cellV B (sI σ k j v) a = cellV B σ a := by
  unfold cellV; rw [mI_sIn σ j v h]; rfl
theorem cellV_sL {B : BX} {σ : Mem} {k j a : Nat} {v : Int64} (h : a ≠ k) : cellV B (sL σ k j v) a = cellV B σ a := by
  unfold cellV; rw [mL_sLn σ j v h]; rfl
theorem cellV_sR {B : BX} {σ : Mem} {k j a : Nat} {v : Nat} (h : a ≠ k) : cellV B (sR σ k j v) a = cellV B σ a := by
  unfold cellV; rw [mR_sRn σ j v h]; rfl
theorem V.putI {ci : Nat} {C : String} {T : u_T} {N : Nat} {ty : Nat → FieldType} {j ix k : Nat} {fk : List Nat} {v : Int32} (hC : ClsOk ci C T N ty) (hF : FL μ.1.cls ix T j) (hj : j < N) (hk : k < n) (hy : bY B k = .inr (ci, fk)) (ht : fk[j]? = some 0) (hfin : (T j).2.2.2 = false) (hn : narrow (ty j) (.int v) = .int v) (hfit : fits (ty j) (.int v) = true) (hd : decode μ.2.1 pc = .ok (.putfield ix, 3))
    (K : V B Y μ d Q kc ks n (sI σ k j v) (pc + 3) lv st) : V B Y μ d Q kc ks n σ pc lv (.int v :: .ref (ad (bb B) k) :: st) :=
  V.putf (σ' := sI σ k j v) hC hF hj hk hy hfin hn hfit (List.getElem?_eq_some_iff.mp ht).1 (fvs_set (fun t h => by rw [ht] at h; cases h; simp [fv, mI_sI, up1]) (fun i hi => ⟨by rw [mI_sI, up1_n _ _ hi], rfl, rfl⟩)) (fun a h => cellV_sI h) hd K
theorem V.putL {ci : Nat} {C : String} {T : u_T} {N : Nat} {ty : Nat → FieldType} {j ix k : Nat} {fk : List Nat} {v : Int64} (hC : ClsOk ci C T N ty) (hF : FL μ.1.cls ix T j) (hj : j < N) (hk : k < n) (hy : bY B k = .inr (ci, fk)) (ht : fk[j]? = some 1) (hfin : (T j).2.2.2 = false) (hn : narrow (ty j) (.long v) = .long v) (hfit : fits (ty j) (.long v) = true) (hd : decode μ.2.1 pc = .ok (.putfield ix, 3))
    (K : V B Y μ d Q kc ks n (sL σ k j v) (pc + 3) lv st) : V B Y μ d Q kc ks n σ pc lv (.long v :: .ref (ad (bb B) k) :: st) :=
  V.putf (σ' := sL σ k j v) hC hF hj hk hy hfin hn hfit (List.getElem?_eq_some_iff.mp ht).1 (fvs_set (fun t h => by rw [ht] at h; cases h; simp [fv, mL_sL, up1]) (fun i hi => ⟨rfl, by rw [mL_sL, up1_n _ _ hi], rfl⟩)) (fun a h => cellV_sL h) hd K
theorem V.putM {ci : Nat} {C : String} {T : u_T} {N : Nat} {ty : Nat → FieldType} {j ix k r : Nat} {fk : List Nat} (hC : ClsOk ci C T N ty) (hF : FL μ.1.cls ix T j) (hj : j < N) (hk : k < n) (hy : bY B k = .inr (ci, fk)) (ht : fk[j]? = some 2) (hfin : (T j).2.2.2 = false) (hn : ∀ a, narrow (ty j) (.ref a) = .ref a) (hfit : ∀ a, fits (ty j) (.ref a) = true) (hd : decode μ.2.1 pc = .ok (.putfield ix, 3))
    (K : V B Y μ d Q kc ks n (sR σ k j (r + 1)) (pc + 3) lv st) : V B Y μ d Q kc ks n σ pc lv (.ref (ad (bb B) r) :: .ref (ad (bb B) k) :: st) :=
  V.putf (σ' := sR σ k j (r + 1)) hC hF hj hk hy hfin (hn _) (hfit _) (List.getElem?_eq_some_iff.mp ht).1 (fvs_set (fun t h => by rw [ht] at h; cases h; simp [fv, mR_sR, up1]) (fun i hi => ⟨rfl, rfl, by rw [mR_sR, up1_n _ _ hi]⟩)) (fun a h => cellV_sR h) hd K
-- arrays
theorem arr_at {ty : FieldType} {N k : Nat} {H : Heap} (hH : Hd B n σ H) (hk : k < n) (hy : bY B k = .inl (ty, N)) : H[ad (bb B) k]? = some (vp_cell (bT B ty) (arrE ty N (mI σ k) (mL σ k))) := by
  have h1 := hH.2.2 k hk
  unfold cellV at h1
  rw [hy] at h1
  exact h1
theorem V.iald {N k : Nat} {i : Int32} (hk : k < n) (hy : bY B k = .inl (.int, N)) (hi : vp_in i N) (hd : decode μ.2.1 pc = .ok (.iaload, 1)) (K : V B Y μ d Q kc ks n σ (pc + 1) lv (.int (mI σ k i.toNatClampNeg) :: st)) : V B Y μ d Q kc ks n σ pc lv (.int i :: .ref (ad (bb B) k) :: st) := by
  obtain ⟨p, e, R, s, m, args, below, meth, c⟩ := Y
  intro hO H locs ls hH hL hl
  have kk := K hO H locs ls hH hL hl
  have h1 : H[ad (bb B) k]? = some (arrV (bT B .int) N (fun j => .int (mI σ k j))) := arr_at hH hk hy
  have hlt : i.toNatClampNeg < N := Nat.not_le.mp fun q => hi (Or.inr q)
  exact W.iald (v := .int (mI σ k i.toNatClampNeg)) hO.1 hO.2.1 h1 ((hO.2.2.2.2.2.2.2.1.1.2 0 _ rfl).1 N (fun j => .int (mI σ k j))) (fun q => by cases q) (by show ¬ (i < 0 ∨ (arrV _ _ _).slots.size ≤ _); rw [arrV_size]; exact hi) (arrV_read _ _ hlt) rfl rfl hd kk
theorem V.zald {N k : Nat} {i : Int32} (hk : k < n) (hy : bY B k = .inl (.boolean, N)) (hi : vp_in i N) (hd : decode μ.2.1 pc = .ok (.baload, 1)) (K : V B Y μ d Q kc ks n σ (pc + 1) lv (.int (mI σ k i.toNatClampNeg) :: st)) : V B Y μ d Q kc ks n σ pc lv (.int i :: .ref (ad (bb B) k) :: st) := by
  obtain ⟨p, e, R, s, m, args, below, meth, c⟩ := Y
  intro hO H locs ls hH hL hl
  have kk := K hO H locs ls hH hL hl
  have h1 : H[ad (bb B) k]? = some (arrV (bT B .boolean) N (fun j => .int (mI σ k j))) := arr_at hH hk hy
  have hlt : i.toNatClampNeg < N := Nat.not_le.mp fun q => hi (Or.inr q)
  exact W.zald (v := .int (mI σ k i.toNatClampNeg)) hO.1 hO.2.1 h1 ((hO.2.2.2.2.2.2.2.1.1.2 1 _ rfl).1 N (fun j => .int (mI σ k j))) (fun q => by cases q) (by show ¬ (i < 0 ∨ (arrV _ _ _).slots.size ≤ _); rw [arrV_size]; exact hi) (arrV_read _ _ hlt) rfl rfl hd kk
theorem V.bald {N k : Nat} {i : Int32} (hk : k < n) (hy : bY B k = .inl (.byte, N)) (hi : vp_in i N) (hd : decode μ.2.1 pc = .ok (.baload, 1)) (K : V B Y μ d Q kc ks n σ (pc + 1) lv (.int (mI σ k i.toNatClampNeg) :: st)) : V B Y μ d Q kc ks n σ pc lv (.int i :: .ref (ad (bb B) k) :: st) := by
  obtain ⟨p, e, R, s, m, args, below, meth, c⟩ := Y
  intro hO H locs ls hH hL hl
  have kk := K hO H locs ls hH hL hl
  have h1 : H[ad (bb B) k]? = some (arrV (bT B .byte) N (fun j => .int (mI σ k j))) := arr_at hH hk hy
  have hlt : i.toNatClampNeg < N := Nat.not_le.mp fun q => hi (Or.inr q)
  exact W.bald (v := .int (mI σ k i.toNatClampNeg)) hO.1 hO.2.1 h1 ((hO.2.2.2.2.2.2.2.1.1.2 3 _ rfl).1 N (fun j => .int (mI σ k j))) (fun q => by cases q) (by show ¬ (i < 0 ∨ (arrV _ _ _).slots.size ≤ _); rw [arrV_size]; exact hi) (arrV_read _ _ hlt) rfl rfl hd kk
theorem V.lald {N k : Nat} {i : Int32} (hk : k < n) (hy : bY B k = .inl (.long, N)) (hi : vp_in i N) (hd : decode μ.2.1 pc = .ok (.laload, 1)) (K : V B Y μ d Q kc ks n σ (pc + 1) lv (.long (mL σ k i.toNatClampNeg) :: st)) : V B Y μ d Q kc ks n σ pc lv (.int i :: .ref (ad (bb B) k) :: st) := by
  obtain ⟨p, e, R, s, m, args, below, meth, c⟩ := Y
  intro hO H locs ls hH hL hl
  have kk := K hO H locs ls hH hL hl
  have h1 : H[ad (bb B) k]? = some (arrV (bT B .long) N (fun j => .long (mL σ k j))) := arr_at hH hk hy
  have hlt : i.toNatClampNeg < N := Nat.not_le.mp fun q => hi (Or.inr q)
  exact W.lald (v := .long (mL σ k i.toNatClampNeg)) hO.1 hO.2.1 h1 ((hO.2.2.2.2.2.2.2.1.1.2 2 _ rfl).1 N (fun j => .long (mL σ k j))) (fun q => by cases q) (by show ¬ (i < 0 ∨ (arrV _ _ _).slots.size ≤ _); rw [arrV_size]; exact hi) (arrV_read _ _ hlt) rfl rfl hd kk
theorem loc_add {b a i : Nat} {locs : List Loc} (hL : ∀ q ∈ locs, b ≤ q.base) (h : b ≤ a) : ∀ q ∈ locs ++ [⟨a, i⟩], b ≤ q.base := by
  intro q hq
  rcases List.mem_append.mp hq with h1 | h1
  · exact hL q h1
  · cases List.mem_singleton.mp h1
    exact h
theorem V.iast {N k : Nat} {i x : Int32} (hk : k < n) (hy : bY B k = .inl (.int, N)) (hi : vp_in i N) (hd : decode μ.2.1 pc = .ok (.iastore, 1)) (K : V B Y μ d Q kc ks n (sI σ k i.toNatClampNeg x) (pc + 1) lv st) : V B Y μ d Q kc ks n σ pc lv (.int x :: .int i :: .ref (ad (bb B) k) :: st) := by
  obtain ⟨p, e, R, s, m, args, below, meth, c⟩ := Y
  intro hO H locs ls hH hL hl
  have h1 := arr_at hH hk hy
  refine W.iast hO.1 hO.2.1 h1 ((hO.2.2.2.2.2.2.2.1.1.2 0 _ rfl).1 N (fun j => .int (mI σ k j))) (fun q => by cases q) (by show ¬ (i < 0 ∨ (arrV _ _ _).slots.size ≤ _); rw [arrV_size]; exact hi) rfl rfl hd fun H1 e1 z oq => ?_
  refine K hO H1 _ ls (hH.set z oq ?_ (fun a h => cellV_sI h)) (loc_add hL (Nat.le_add_right _ _)) hl
  unfold cellV
  rw [hy, mI_sI]
  show H1[_]? = some (vp_cell _ (N, .inl _))
  rw [e1]
  show some ((arrV _ _ _).setSlot _ _) = _
  rw [vp_cell_i, arrV_store]
  congr 2
  funext q
  by_cases hq : q = i.toNatClampNeg
  · subst hq; simp [updV, up1]
  · simp [updV, up1, hq]
theorem V.zast {N k : Nat} {i x : Int32} (hk : k < n) (hy : bY B k = .inl (.boolean, N)) (hi : vp_in i N) (hd : decode μ.2.1 pc = .ok (.bastore, 1)) (K : V B Y μ d Q kc ks n (sI σ k i.toNatClampNeg (x &&& 1)) (pc + 1) lv st) : V B Y μ d Q kc ks n σ pc lv (.int x :: .int i :: .ref (ad (bb B) k) :: st) := by
  obtain ⟨p, e, R, s, m, args, below, meth, c⟩ := Y
  intro hO H locs ls hH hL hl
  have h1 := arr_at hH hk hy
  refine W.zast hO.1 hO.2.1 h1 ((hO.2.2.2.2.2.2.2.1.1.2 1 _ rfl).1 N (fun j => .int (mI σ k j))) (fun q => by cases q) (by show ¬ (i < 0 ∨ (arrV _ _ _).slots.size ≤ _); rw [arrV_size]; exact hi) rfl rfl hd fun H1 e1 z oq => ?_
  refine K hO H1 _ ls (hH.set z oq ?_ (fun a h => cellV_sI h)) (loc_add hL (Nat.le_add_right _ _)) hl
  unfold cellV
  rw [hy, mI_sI]
  show H1[_]? = some (vp_cell _ (N, .inl _))
  rw [e1]
  show some ((arrV _ _ _).setSlot _ _) = _
  rw [vp_cell_i, arrV_store]
  congr 2
  funext q
  by_cases hq : q = i.toNatClampNeg
  · subst hq; simp [updV, up1, narrow]
  · simp [updV, up1, hq]
theorem V.bast {N k : Nat} {i x : Int32} (hk : k < n) (hy : bY B k = .inl (.byte, N)) (hi : vp_in i N) (hd : decode μ.2.1 pc = .ok (.bastore, 1)) (K : V B Y μ d Q kc ks n (sI σ k i.toNatClampNeg x.toInt8.toInt32) (pc + 1) lv st) : V B Y μ d Q kc ks n σ pc lv (.int x :: .int i :: .ref (ad (bb B) k) :: st) := by
  obtain ⟨p, e, R, s, m, args, below, meth, c⟩ := Y
  intro hO H locs ls hH hL hl
  have h1 := arr_at hH hk hy
  refine W.bast hO.1 hO.2.1 h1 ((hO.2.2.2.2.2.2.2.1.1.2 3 _ rfl).1 N (fun j => .int (mI σ k j))) (fun q => by cases q) (by show ¬ (i < 0 ∨ (arrV _ _ _).slots.size ≤ _); rw [arrV_size]; exact hi) rfl rfl hd fun H1 e1 z oq => ?_
  refine K hO H1 _ ls (hH.set z oq ?_ (fun a h => cellV_sI h)) (loc_add hL (Nat.le_add_right _ _)) hl
  unfold cellV
  rw [hy, mI_sI]
  show H1[_]? = some (vp_cell _ (N, .inl _))
  rw [e1]
  show some ((arrV _ _ _).setSlot _ _) = _
  rw [vp_cell_i, arrV_store]
  congr 2
  funext q
  by_cases hq : q = i.toNatClampNeg
  · subst hq; simp [updV, up1, narrow]
  · simp [updV, up1, hq]
theorem V.last {N k : Nat} {i : Int32} {x : Int64} (hk : k < n) (hy : bY B k = .inl (.long, N)) (hi : vp_in i N) (hd : decode μ.2.1 pc = .ok (.lastore, 1)) (K : V B Y μ d Q kc ks n (sL σ k i.toNatClampNeg x) (pc + 1) lv st) : V B Y μ d Q kc ks n σ pc lv (.long x :: .int i :: .ref (ad (bb B) k) :: st) := by
  obtain ⟨p, e, R, s, m, args, below, meth, c⟩ := Y
  intro hO H locs ls hH hL hl
  have h1 := arr_at hH hk hy
  refine W.last hO.1 hO.2.1 h1 ((hO.2.2.2.2.2.2.2.1.1.2 2 _ rfl).1 N (fun j => .long (mL σ k j))) (fun q => by cases q) (by show ¬ (i < 0 ∨ (arrV _ _ _).slots.size ≤ _); rw [arrV_size]; exact hi) rfl rfl hd fun H1 e1 z oq => ?_
  refine K hO H1 _ ls (hH.set z oq ?_ (fun a h => cellV_sL h)) (loc_add hL (Nat.le_add_right _ _)) hl
  unfold cellV
  rw [hy, mL_sL]
  show H1[_]? = some (vp_cell _ (N, .inr (.inl _)))
  rw [e1]
  show some ((arrV _ _ _).setSlot _ _) = _
  rw [vp_cell_l, arrV_store]
  congr 2
  funext q
  by_cases hq : q = i.toNatClampNeg
  · subst hq; simp [updV, up1]
  · simp [updV, up1, hq]
theorem V.alen {ty : FieldType} {t N k : Nat} (hk : k < n) (hy : bY B k = .inl (ty, N)) (ht : (tysB B)[t]? = some (bT B ty, ty)) (hd : decode μ.2.1 pc = .ok (.arraylength, 1)) (K : V B Y μ d Q kc ks n σ (pc + 1) lv (.int (Int32.ofNat N) :: st)) : V B Y μ d Q kc ks n σ pc lv (.ref (ad (bb B) k) :: st) := by
  obtain ⟨p, e, R, s, m, args, below, meth, c⟩ := Y
  intro hO H locs ls hH hL hl
  have kk := K hO H locs ls hH hL hl
  have h1 := arr_at hH hk hy
  have h2 := (hO.2.2.2.2.2.2.2.1.1.2 t _ ht).1
  by_cases e : ty = .long
  · subst e
    exact W.alen (n := Int32.ofNat N) hO.1 hO.2.1 h1 (h2 N (fun j => .long (mL σ k j))) (by show (arrV _ _ _).slots.size.toInt32 = _; rw [arrV_size]; rfl) rfl rfl hd kk
  · have h3 : vp_cell (bT B ty) (arrE ty N (mI σ k) (mL σ k)) = arrV (bT B ty) N (fun j => .int (mI σ k j)) := by
      cases ty <;> first | rfl | exact absurd rfl e
    rw [h3] at h1
    exact W.alen (n := Int32.ofNat N) hO.1 hO.2.1 h1 (h2 N (fun j => .int (mI σ k j))) (by rw [arrV_size]) rfl rfl hd kk
-- constants of the pool
theorem V.ldc {ix : Nat} {v : Int32} (hw : Cond.constant μ.1.cls ix v ∈ tblG) (hd : decode μ.2.1 pc = .ok (.ldc ix, 2)) (K : V B Y μ d Q kc ks n σ (pc + 2) lv (.int v :: st)) : V B Y μ d Q kc ks n σ pc lv st := by
  obtain ⟨p, e, R, s, m, args, below, meth, c⟩ := Y
  intro hO H locs ls hH hL hl
  exact lv_ldc hO.1 hO.2.1 hO.2.2.2.2.1 (hO.2.2.2.2.2.1 _ hw) hd (K hO H locs ls hH hL hl)
theorem V.ldc2 {ix : Nat} {v : Int64} (hw : Cond.constantLong μ.1.cls ix v ∈ tblG) (hd : decode μ.2.1 pc = .ok (.ldc2_w ix, 3)) (K : V B Y μ d Q kc ks n σ (pc + 3) lv (.long v :: st)) : V B Y μ d Q kc ks n σ pc lv st := by
  obtain ⟨p, e, R, s, m, args, below, meth, c⟩ := Y
  intro hO H locs ls hH hL hl
  exact lv_ldc2 hO.1 hO.2.1 hO.2.2.2.2.1 (hO.2.2.2.2.2.1 _ hw) hd (K hO H locs ls hH hL hl)
-- the locals, fewer or in another order; the top value by a name
theorem V.pick {lv' : List (Nat × Value)} (is : List Nat) (h : lv_pick lv is = lv') (K : V B Y μ d Q kc ks n σ pc lv' st) : V B Y μ d Q kc ks n σ pc lv st := by
  obtain ⟨p, e, R, s, m, args, below, meth, c⟩ := Y
  intro hO H locs ls hH hL hl
  exact K hO H locs ls hH hL (lv_sub hl is h)
end VH
