-- ===== what a function leaves as it was: all but the cells ms and the single places fs =====
def Fr (ms : List Nat) (fs : List (Nat × Nat)) (σ σ' : Mem) : Prop := ∀ k j : Nat, k ∉ ms → (k, j) ∉ fs → σ'.1 k j = σ.1 k j ∧ σ'.2.1 k j = σ.2.1 k j ∧ σ'.2.2 k j = σ.2.2 k j
theorem Fr.rf (ms : List Nat) (fs : List (Nat × Nat)) (σ : Mem) : Fr ms fs σ σ := fun _ _ _ _ => ⟨rfl, rfl, rfl⟩
theorem Fr.t {ms : List Nat} {fs : List (Nat × Nat)} {σ σ1 σ2 : Mem} (h : Fr ms fs σ σ1) (h2 : Fr ms fs σ1 σ2) : Fr ms fs σ σ2 := fun k j a b => ⟨(h2 k j a b).1.trans (h k j a b).1, (h2 k j a b).2.1.trans (h k j a b).2.1, (h2 k j a b).2.2.trans (h k j a b).2.2⟩
theorem Fr.mono {ms ms' : List Nat} {fs fs' : List (Nat × Nat)} {σ σ1 : Mem} (h : Fr ms' fs' σ σ1) (h1 : ∀ x ∈ ms', x ∈ ms) (h2 : ∀ x ∈ fs', x ∈ fs) : Fr ms fs σ σ1 := fun k j a b => h k j (fun z => a (h1 _ z)) (fun z => b (h2 _ z))
theorem Fr.c {ms ms' : List Nat} {fs fs' : List (Nat × Nat)} {σ σ1 σ2 : Mem} (h : Fr ms fs σ σ1) (g : Fr ms' fs' σ1 σ2) (h1 : ∀ x ∈ ms', x ∈ ms) (h2 : ∀ x ∈ fs', x ∈ fs) : Fr ms fs σ σ2 := h.t (g.mono h1 h2)
theorem up2_n {α : Type} (f : Nat → Nat → α) {a i k j : Nat} (v : α) (h : ¬ (a = k ∧ i = j)) : up1 f k (up1 (f k) j v) a i = f a i := by
  unfold up1
  by_cases e : a = k
  · subst e
    rw [if_pos rfl]
    exact if_neg (fun z => h ⟨rfl, z⟩)
  · rw [if_neg e]
theorem Fr.fI {ms : List Nat} {fs : List (Nat × Nat)} {σ σ1 σ2 : Mem} {k j : Nat} {v : Int32} (h : Fr ms fs σ σ1) (e : σ2 = sI σ1 k j v) (hm : (k, j) ∈ fs) : Fr ms fs σ σ2 := h.t (fun a i _ b => by subst e; exact ⟨up2_n _ _ (fun z => b (by rw [z.1, z.2]; exact hm)), rfl, rfl⟩)
theorem Fr.fL {ms : List Nat} {fs : List (Nat × Nat)} {σ σ1 σ2 : Mem} {k j : Nat} {v : Int64} (h : Fr ms fs σ σ1) (e : σ2 = sL σ1 k j v) (hm : (k, j) ∈ fs) : Fr ms fs σ σ2 := h.t (fun a i _ b => by subst e; exact ⟨rfl, up2_n _ _ (fun z => b (by rw [z.1, z.2]; exact hm)), rfl⟩)
theorem Fr.fR {ms : List Nat} {fs : List (Nat × Nat)} {σ σ1 σ2 : Mem} {k j v : Nat} (h : Fr ms fs σ σ1) (e : σ2 = sR σ1 k j v) (hm : (k, j) ∈ fs) : Fr ms fs σ σ2 := h.t (fun a i _ b => by subst e; exact ⟨rfl, rfl, up2_n _ _ (fun z => b (by rw [z.1, z.2]; exact hm))⟩)
theorem Fr.aI {ms : List Nat} {fs : List (Nat × Nat)} {σ σ1 σ2 : Mem} {k j : Nat} {v : Int32} (h : Fr ms fs σ σ1) (e : σ2 = sI σ1 k j v) (hm : k ∈ ms) : Fr ms fs σ σ2 := h.t (fun a i b _ => by subst e; exact ⟨up2_n _ _ (fun z => b (by rw [z.1]; exact hm)), rfl, rfl⟩)
theorem Fr.aL {ms : List Nat} {fs : List (Nat × Nat)} {σ σ1 σ2 : Mem} {k j : Nat} {v : Int64} (h : Fr ms fs σ σ1) (e : σ2 = sL σ1 k j v) (hm : k ∈ ms) : Fr ms fs σ σ2 := h.t (fun a i b _ => by subst e; exact ⟨rfl, up2_n _ _ (fun z => b (by rw [z.1]; exact hm)), rfl⟩)
theorem Fr.cp {ms : List Nat} {fs : List (Nat × Nat)} {σ σ1 σ2 : Mem} {k j a b n : Nat} (h : Fr ms fs σ σ1) (e : σ2 = cpI σ1 k j a b n) (hm : j ∈ ms) : Fr ms fs σ σ2 := h.t (fun c i g _ => by subst e; exact ⟨congrFun (up1_n _ _ (fun z => g (by rw [z]; exact hm))) i, rfl, rfl⟩)
theorem ite_or {α : Type} {c : Prop} [Decidable c] {x y r : α} (h : (if c then x else y) = r) : x = r ∨ y = r := by
  by_cases hc : c
  · rw [if_pos hc] at h; exact Or.inl h
  · rw [if_neg hc] at h; exact Or.inr h
theorem drf_m {σ : Mem} {k j r : Nat} {ms : List Nat} (h : drf σ k j = some r) (hm : 45 ∈ ms ∧ 46 ∈ ms) : r ∈ ms := by
  unfold drf at h
  rcases ite_or h with h | h
  · cases h; exact hm.1
  · rcases ite_or h with h | h
    · cases h; exact hm.2
    · cases h
theorem drf_s {σ : Mem} {k j r : Nat} {ms : List Nat} (h : drf σ k j = some r) (hm : 45 ∈ ms ∧ 46 ∈ ms) : ∀ x ∈ [r], x ∈ ms := fun x hx => by
  cases List.mem_singleton.mp hx
  exact drf_m h hm
/-- the rows that stay -/
theorem Fr.I {ms : List Nat} {fs : List (Nat × Nat)} {σ σ1 : Mem} (h : Fr ms fs σ σ1) (k j : Nat) (h1 : k ∉ ms) (h2 : (k, j) ∉ fs) : mI σ1 k j = mI σ k j := (h k j h1 h2).1
theorem Fr.L {ms : List Nat} {fs : List (Nat × Nat)} {σ σ1 : Mem} (h : Fr ms fs σ σ1) (k j : Nat) (h1 : k ∉ ms) (h2 : (k, j) ∉ fs) : mL σ1 k j = mL σ k j := (h k j h1 h2).2.1
theorem Fr.R {ms : List Nat} {fs : List (Nat × Nat)} {σ σ1 : Mem} (h : Fr ms fs σ σ1) (k j : Nat) (h1 : k ∉ ms) (h2 : (k, j) ∉ fs) : mR σ1 k j = mR σ k j := (h k j h1 h2).2.2
theorem Fr.rowI {ms : List Nat} {fs : List (Nat × Nat)} {σ σ1 : Mem} (h : Fr ms fs σ σ1) (k : Nat) (h1 : k ∉ ms) (h2 : ∀ q ∈ fs, q.1 ≠ k) : mI σ1 k = mI σ k := funext fun j => (h k j h1 (fun z => h2 _ z rfl)).1
