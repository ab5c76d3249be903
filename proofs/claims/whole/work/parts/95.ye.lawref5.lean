-- ===== the reference: pieces, parts =====
/-- code with waiting jumps Q: if they land at c, it comes to g -/
def PT (cd : Nat → Int32) (s c : Nat) (Q : List (Nat × Nat)) (h : Nat) (g : DN) : Prop := ∀ cd' : Nat → Int32, (∀ j, s ≤ j → j < c → (∀ q, q ∈ Q → q.2 ≠ j) → cd' j = cd j) → (∀ q, q ∈ Q → cd' q.2 = nI (1048576 * q.1 + c)) → SemX DM cd' s c h g
/-- at the head of a chain: nothing yet, or what was read and the jump behind it -/
def HA (cd : Nat → Int32) (s c : Nat) (Q : List (Nat × Nat)) (o : Nat) (v0 : Int32) (acc : DN) (h : Nat) : Prop := (Q = [] ∧ s = c ∧ acc = lcst v0) ∨ ∃ f, Q = [(o, f)] ∧ s ≤ f ∧ c = f + 1 ∧ SemX DM cd s f h acc ∧ B01 acc ∧ cd f = nI (1048576 * o + 0)
theorem ha_pt {cd cd2 : Nat → Int32} {s c c' h o i : Nat} {w v0 : Int32} {Q Q2 : List (Nat × Nat)} {acc g : DN} (H : HA cd s c Q o v0 acc h) (ho : (o = 11 ∧ i = 4 ∧ w = 0 ∧ v0 = 1) ∨ (o = 12 ∧ i = 5 ∧ w = 1 ∧ v0 = 0)) (hk : ∀ j, s ≤ j → j < c → cd2 j = cd j) (G : PT cd2 c c' Q2 h g) (hQ2 : ∀ q, q ∈ Q2 → c ≤ q.2) (cc : c ≤ c') (hc : c' < 250) (h2 : 2 ≤ h) : PT cd2 s c' (Q2 ++ Q) h (jD w acc g) := by
  intro cd' a1 a2
  rcases H with ⟨rfl, rfl, rfl⟩ | ⟨f, rfl, sf, rfl, S, b01, ef⟩
  · have : jD w (lcst v0) g = g := by
      rcases ho with ⟨-, -, rfl, rfl⟩ | ⟨-, -, rfl, rfl⟩ <;> rfl
    rw [this]
    exact G cd' (fun j q1 q2 q3 => a1 j q1 q2 (fun q hq => q3 q (by rw [List.append_nil] at hq; exact hq))) (fun q hq => a2 q (List.mem_append_left _ hq))
  · have B : SemX DM cd' (f + 1) c' h g := G cd' (fun j q1 q2 q3 => a1 j (by omega) q2 (fun q hq => by
      rcases List.mem_append.mp hq with z | z
      · exact q3 q z
      · rw [List.mem_singleton.mp z]; show f ≠ j; omega)) (fun q hq => a2 q (List.mem_append_left _ hq))
    have A : SemX DM cd' s f h acc := S.k (fun j q1 q2 => (a1 j q1 (by omega) (fun q hq => by
      rcases List.mem_append.mp hq with z | z
      · have := hQ2 q z; omega
      · rw [List.mem_singleton.mp z]; show f ≠ j; omega)).trans (hk j q1 (by omega)))
    have ej : cd' f = nI (1048576 * o + c') := a2 (o, f) (List.mem_append_right _ List.mem_cons_self)
    have ew : wt i = w := by rcases ho with ⟨-, rfl, rfl, -⟩ | ⟨-, rfl, rfl, -⟩ <;> rfl
    rw [← ew]
    refine sem_jump A B h2 sf (Nat.lt_succ_self f) (by omega) (by rcases ho with ⟨-, z, -⟩ | ⟨-, z, -⟩ <;> omega) b01 (fun cd'' hcd => ⟨by omega, rfl, ?_⟩)
    have e2 : cd'' f = nI (1048576 * o + c') := (hcd f (Nat.le_refl _) (Nat.lt_succ_self f)).trans ej
    rcases ho with ⟨rfl, rfl, -⟩ | ⟨rfl, rfl, -⟩
    · exact Or.inr (Or.inr (Or.inr (Or.inr (Or.inl ⟨rfl, c', hc, rfl, e2⟩))))
    · exact Or.inr (Or.inr (Or.inr (Or.inr (Or.inr ⟨rfl, c', hc, rfl, e2⟩))))
theorem pt_nil {cd : Nat → Int32} {s c h : Nat} {g : DN} (S : SemX DM cd s c h g) : PT cd s c [] h g := fun cd' a1 _ => S.k (fun j q1 q2 => a1 j q1 q2 (fun q hq => absurd hq (by simp)))
def POut (N n : Nat) (tx : Nat → Int32) (R : Option (Int32 × Mem)) (σ : Mem) (W : List (Nat × Nat)) (d p c x : Nat) (o : Out) : Prop := match o with
  | .inl (k, q) => ∃ σ', R = some (0, σ') ∧ mI σ' 65 14 = (-1000) * nI k - nI q
  | .inr (q, g) => ∃ (ke k92 k40 : Nat) (σ' : Mem) (c' : Nat), R = EP N ke k92 k40 σ' ∧ W.length < ke ∧ n - q < k92 ∧ n - q < k40 ∧ MS n tx σ' W d q c' ∧ c' + x ≤ q ∧ W.length ≤ q ∧ c ≤ c' ∧ p ≤ q ∧ (∀ j, j < c → mI σ' 73 j = mI σ 73 j) ∧ SemX DM (mI σ' 73) c c' (hh 2 d) g ∧ B01 g
def SimPie (N n : Nat) (tx : Nat → Int32) (d p : Nat) (o : Out) : Prop := ∀ (σ : Mem) (W : List (Nat × Nat)) (c x k : Nat), MS n tx σ W d p c → c + x ≤ p → W.length ≤ p → 1 ≤ W.length → d ≤ 6 → ¬ clo 1 (tpI W) → n - p < k → POut N n tx (L_Mo_readsCondition_l40 N k σ) σ W d p c x o
def QOut (N n : Nat) (tx : Nat → Int32) (R : Option (Int32 × Mem)) (σ : Mem) (W : List (Nat × Nat)) (d p s x t : Nat) (a : Int32) (o : Out) : Prop := match o with
  | .inl (k, q) => ∃ σ', R = some (0, σ') ∧ mI σ' 65 14 = (-1000) * nI k - nI q
  | .inr (q, g) => ∃ (k92 k40 : Nat) (σ' : Mem) (c' : Nat) (Q : List (Nat × Nat)), R = AP N k92 k40 σ' ∧ n - q < k92 ∧ n - q < k40 ∧ MS n tx σ' (Q ++ W) d q c' ∧ c' + x ≤ q ∧ (Q ++ W).length ≤ q ∧ s ≤ c' ∧ p ≤ q ∧ (∀ j, j < s → mI σ' 73 j = mI σ 73 j) ∧ PT (mI σ' 73) s c' Q (hh t d) g ∧ JQ a (mI σ' 73) c' Q ∧ (∀ w, w ∈ Q → s ≤ w.2) ∧ B01 g ∧ tx q ≠ 38 ∧ (a = 1 → tx q ≠ 124)
def SimPs (N n : Nat) (tx : Nat → Int32) (acc : DN) (d p : Nat) (o : Out) : Prop := ∀ (σ : Mem) (W : List (Nat × Nat)) (c s x k : Nat) (Q : List (Nat × Nat)), MS n tx σ (Q ++ W) d p c → HA (mI σ 73) s c Q 11 1 acc (hh 1 d) → c + x ≤ p → (Q ++ W).length ≤ p → 1 ≤ W.length → d ≤ 6 → (tpI W = 12 ∨ tpI W = 13) → n - p < k → QOut N n tx (L_Mo_readsCondition_l40 N k σ) σ W d p s x 1 0 o
def SimPar (N n : Nat) (tx : Nat → Int32) (acc : DN) (d p : Nat) (o : Out) : Prop := ∀ (σ : Mem) (W : List (Nat × Nat)) (c s x k : Nat) (Q : List (Nat × Nat)), MS n tx σ (Q ++ W) d p c → HA (mI σ 73) s c Q 12 0 acc (hh 0 d) → c + x ≤ p → (Q ++ W).length ≤ p → 1 ≤ W.length → d ≤ 6 → tpI W = 13 → n - p < k → QOut N n tx (L_Mo_readsCondition_l40 N k σ) σ W d p s x 0 1 o
theorem QOut.mono {N n : Nat} {tx : Nat → Int32} {R R0 : Option (Int32 × Mem)} {σ σ1 : Mem} {s : Nat} {W : List (Nat × Nat)} {d p p1 x t : Nat} {a : Int32} {o : Out} (h : QOut N n tx R σ1 W d p1 s x t a o) (e : R0 = R) (hp : p ≤ p1) (hk : ∀ j, j < s → mI σ1 73 j = mI σ 73 j) : QOut N n tx R0 σ W d p s x t a o := by
  match o, h with
  | .inl (k, q), h => obtain ⟨σ', a1, a2⟩ := h; exact ⟨σ', e.trans a1, a2⟩
  | .inr (q, g), h =>
    obtain ⟨k92, k40, σ', c', Q, a1, a2, a3, a4, a5, a6, a7, a8, a9, b⟩ := h
    exact ⟨k92, k40, σ', c', Q, e.trans a1, a2, a3, a4, a5, a6, a7, by omega, fun j hj => (a9 j hj).trans (hk j hj), b⟩
theorem HA.s_le {cd : Nat → Int32} {s c : Nat} {Q : List (Nat × Nat)} {o : Nat} {v0 : Int32} {acc : DN} {h : Nat} (H : HA cd s c Q o v0 acc h) : s ≤ c := by
  rcases H with ⟨-, e, -⟩ | ⟨f, -, h1, h2, -⟩ <;> omega
theorem HA.jq {cd cd2 : Nat → Int32} {s c c' : Nat} {Q : List (Nat × Nat)} {o : Nat} {v0 a : Int32} {acc : DN} {h : Nat} (H : HA cd s c Q o v0 acc h) (ho : o = 11 ∨ (o = 12 ∧ ¬ a = 0)) (hk : ∀ j, s ≤ j → j < c → cd2 j = cd j) (hc : c ≤ c') : JQ a cd2 c' Q ∧ ∀ w, w ∈ Q → s ≤ w.2 ∧ w.2 < c := by
  rcases H with ⟨rfl, -, -⟩ | ⟨f, rfl, h1, rfl, -, -, h5⟩
  · exact ⟨True.intro, fun w hw => absurd hw (by simp)⟩
  · exact ⟨⟨ho, by show f < c'; omega, (hk f h1 (Nat.lt_succ_self f)).trans h5, fun q hq => absurd hq (by simp), True.intro⟩, fun w hw => by rw [List.mem_singleton.mp hw]; exact ⟨h1, Nat.lt_succ_self f⟩⟩
theorem JQ.app {a b : Int32} {f : Nat → Int32} {c m : Nat} (hb : ¬ b = 0) : ∀ {Q Q2 : List (Nat × Nat)}, JQ a f c Q → JQ b f c Q2 → (∀ q, q ∈ Q → m ≤ q.2) → (∀ q, q ∈ Q2 → q.2 < m) → JQ b f c (Q ++ Q2) := by
  intro Q
  induction Q with
  | nil => intro Q2 _ h _ _; exact h
  | cons w r ih =>
    intro Q2 h h2 h3 h4
    obtain ⟨q1, q2, q3, q4, q5⟩ := h
    refine ⟨?_, q2, q3, fun q hq => ?_, ih q5 h2 (fun q hq => h3 q (List.mem_cons_of_mem _ hq)) h4⟩
    · rcases q1 with z | z
      · exact Or.inl z
      · exact Or.inr ⟨z.1, hb⟩
    · rcases List.mem_append.mp hq with z | z
      · exact q4 q z
      · have := h4 q z; have := h3 w List.mem_cons_self; omega
/-- what lies on the stack of what waits, where a piece begins -/
theorem tp_q {W Q : List (Nat × Nat)} {cd : Nat → Int32} {s c o : Nat} {v0 : Int32} {acc : DN} {h : Nat} (H : HA cd s c Q o v0 acc h) (ho : o = 11 ∨ o = 12) (hW : tpI W = 12 ∨ tpI W = 13) : ¬ clo 1 (tpI (Q ++ W)) ∧ tpI (Q ++ W) ≠ 10 := by
  rcases H with ⟨rfl, -, -⟩ | ⟨f, rfl, -⟩
  · rw [List.nil_append]
    rcases hW with z | z <;> rw [z] <;> decide
  · show ¬ clo 1 (nI o) ∧ nI o ≠ 10
    rcases ho with rfl | rfl <;> decide
section SimC
variable {N n : Nat} {tx : Nat → Int32}
theorem sp_open (hT : TX n tx) {d p : Nat} {σ : Mem} {W : List (Nat × Nat)} {c k y : Nat} {ch : Int32} (h : MS n tx σ W d p c) (hw : W.length ≤ p) (hd : d ≤ 6) (hk : n - p < k) (ec : tx p = ch) (hc : (ch = 33 ∧ y = 10) ∨ (ch = 40 ∧ y = 13)) : (d < 6 ∧ ∃ k' σ1, L_Mo_readsCondition_l40 N k σ = L_Mo_readsCondition_l40 N k' σ1 ∧ n - (p + 1) < k' ∧ MS n tx σ1 ((y, 0) :: W) (d + 1) (p + 1) c ∧ mI σ1 73 = mI σ 73) ∨ (6 ≤ d ∧ ∃ σ', L_Mo_readsCondition_l40 N k σ = some (0, σ') ∧ mI σ' 65 14 = (-1000) * nI 5 - nI p) := by
  have hn := hT.1
  have hp : p < n := hT.lt (by rw [ec]; rcases hc with ⟨rfl, -⟩ | ⟨rfl, -⟩ <;> decide)
  obtain ⟨k, rfl⟩ : ∃ z, k = z + 1 := ⟨k - 1, by omega⟩
  have hh : (ch = 33 ∧ nI y = 10) ∨ (ch = 40 ∧ nI y = 13) := by
    rcases hc with ⟨z1, rfl⟩ | ⟨z1, rfl⟩
    · exact Or.inl ⟨z1, rfl⟩
    · exact Or.inr ⟨z1, rfl⟩
  have hy : y < 16 := by rcases hc with ⟨-, z⟩ | ⟨-, z⟩ <;> omega
  rcases mo_opens h hn hp hd (by omega) hy (x := nI y) rfl with ⟨z, σ1, a1, a2, a3⟩ | ⟨z, σ1, a1, a2⟩
  · refine Or.inl ⟨z, k, σ1, ?_, by omega, a2, a3⟩
    rw [ch_open (by rw [mo_here hT h, ec]) hh a1, if_neg ne10]
  · refine Or.inr ⟨z, σ1, ?_, a2⟩
    rw [ch_open (by rw [mo_here hT h, ec]) hh a1, if_pos rfl]
theorem sp_1 (hT : TX n tx) {d p y : Nat} {ch : Int32} (ec : tx p = ch) (hc : (ch = 33 ∧ y = 10) ∨ (ch = 40 ∧ y = 13)) (h6 : 6 ≤ d) : SimPie N n tx d p (.inl (5, p)) := by
  intro σ W c x k h hx hw hw1 hd hcl hk
  rcases sp_open (N := N) hT h hw hd hk ec hc with ⟨z, -⟩ | ⟨z, r⟩
  · omega
  · exact r
theorem sp_2 (hT : TX n tx) {d p : Nat} {b : Nat × Nat} (ec : tx p = 33) (h6 : d < 6) (S : SimPie N n tx (d + 1) (p + 1) (.inl b)) : SimPie N n tx d p (.inl b) := by
  intro σ W c x k h hx hw hw1 hd hcl hk
  obtain ⟨kk, q⟩ := b
  rcases sp_open (N := N) hT h hw hd hk ec (Or.inl ⟨rfl, rfl⟩) with ⟨z, k', σ1, a1, a2, a3, a4⟩ | ⟨z, r⟩
  · obtain ⟨σ', b1, b2⟩ := S σ1 ((10, 0) :: W) c x k' a3 (by omega) (by rw [List.length_cons]; omega) (by rw [List.length_cons]; omega) (by omega) (show ¬ clo 1 (nI 10) by decide) a2
    exact ⟨σ', a1.trans b1, b2⟩
  · omega
theorem sp_3 (hT : TX n tx) {d p q : Nat} {g : DN} (ec : tx p = 33) (h6 : d < 6) (S : SimPie N n tx (d + 1) (p + 1) (.inr (q, g))) : SimPie N n tx d p (.inr (q, notD g)) := by
  intro σ W c x k h hx hw hw1 hd hcl hk
  have hn := hT.1
  rcases sp_open (N := N) hT h hw hd hk ec (Or.inl ⟨rfl, rfl⟩) with ⟨z, k', σ1, a1, a2, a3, a4⟩ | ⟨z, r⟩
  · obtain ⟨ke, k92, k40, σ', c', b1, b2, b3, b4, b5, b6, b7, b8, b9, e1, e2, e3⟩ := S σ1 ((10, 0) :: W) c (x + 1) k' a3 (by omega) (by rw [List.length_cons]; omega) (by rw [List.length_cons]; omega) (by omega) (show ¬ clo 1 (nI 10) by decide) a2
    rw [List.length_cons] at b2 b7
    have hqn : q ≤ n := b5.2.2.2.2.2.2.2
    obtain ⟨ke, rfl⟩ : ∃ z, ke = z + 1 := ⟨ke - 1, by omega⟩
    obtain ⟨σ3, f1, f2, f3⟩ := ep_not (N := N) (ke := ke) (k92 := k92) (k40 := k40) b5 (by omega) (by omega)
    refine ⟨ke, k92, k40, σ3, c' + 1, a1.trans (b1.trans f1), by omega, b3, b4, f2, by omega, by omega, by omega, by omega, fun j hj => ?_, ?_, e3.not⟩
    · rw [f3, up1_n _ _ (by omega), e1 j hj, a4]
    · have S1 : SemX DM (mI σ3 73) c c' (hh 2 d) g := (e2.k (fun j h1 h2 => by rw [f3, up1_n _ _ (by omega)])).up (by unfold hh; simp; omega)
      exact sem_not (v := 0) S1 (hh2 2 d) (by omega) (Nat.lt_succ_self c') (fun cd' hcd => ⟨by omega, rfl, Or.inr (Or.inr (Or.inr (Or.inl ⟨rfl, by rw [hcd c' (Nat.le_refl _) (Nat.lt_succ_self c'), f3, up1_s]⟩)))⟩)
  · omega
theorem sp_par (hT : TX n tx) {d p : Nat} {o : Out} (ec : tx p = 40) (h6 : d < 6) (S : SimPar N n tx (lcst 0) (d + 1) (p + 1) o) {σ : Mem} {W : List (Nat × Nat)} {c x k : Nat} (h : MS n tx σ W d p c) (hx : c + x ≤ p) (hw : W.length ≤ p) (hd : d ≤ 6) (hk : n - p < k) : QOut N n tx (L_Mo_readsCondition_l40 N k σ) σ ((13, 0) :: W) (d + 1) p c x 0 1 o := by
  rcases sp_open (N := N) hT h hw hd hk ec (Or.inr ⟨rfl, rfl⟩) with ⟨z, k', σ1, a1, a2, a3, a4⟩ | ⟨z, r⟩
  · exact (S σ1 ((13, 0) :: W) c c x k' [] a3 (Or.inl ⟨rfl, rfl, rfl⟩) (by omega) (by rw [List.nil_append, List.length_cons]; omega) (by rw [List.length_cons]; omega) (by omega) rfl a2).mono a1 (by omega) (fun j _ => by rw [a4])
  · omega
theorem sp_5 (hT : TX n tx) {d p : Nat} {b : Nat × Nat} (ec : tx p = 40) (h6 : d < 6) (S : SimPar N n tx (lcst 0) (d + 1) (p + 1) (.inl b)) : SimPie N n tx d p (.inl b) := by
  intro σ W c x k h hx hw hw1 hd hcl hk
  obtain ⟨kk, q⟩ := b
  exact sp_par hT ec h6 S h hx hw hd hk
theorem sp_6 (hT : TX n tx) {d p q : Nat} {g : DN} (ec : tx p = 40) (h6 : d < 6) (S : SimPar N n tx (lcst 0) (d + 1) (p + 1) (.inr (q, g))) (hq : tx q ≠ 41) : SimPie N n tx d p (.inl (1, q)) := by
  intro σ W c x k h hx hw hw1 hd hcl hk
  obtain ⟨k92, k40, σ', c', Q, a1, a2, a3, a4, a5, a6, a7, a8, a9, b1, b2, b3, b4, b5, b6⟩ := sp_par (x := x) hT ec h6 S h hx hw hd hk
  obtain ⟨k92, rfl⟩ : ∃ z, k92 = z + 1 := ⟨k92 - 1, by omega⟩
  obtain ⟨σ2, c1, c2⟩ := ap_bad (N := N) (k := k92) (k40 := k40) (mo_here hT a4) hq b5 (b6 rfl) a4.1
  exact ⟨σ2, a1.trans c1, c2⟩
/-- the bracket of a condition is shut -/
theorem par_shut (hN : 1000 < N) (hT : TX n tx) {d q c' k92 k40 : Nat} {σ' : Mem} {W Q : List (Nat × Nat)} (hq : tx q = 41) (h : MS n tx σ' (Q ++ (13, 0) :: W) (d + 1) q c') (hc : c' < 260) (hl : (Q ++ (13, 0) :: W).length ≤ 260) (hQ : JQ 1 (mI σ' 73) c' Q) : ∃ σ4, (AP N (k92 + 1) k40 σ' = if mI σ4 65 17 = 0 then some (1, σ4) else EP N N k92 k40 σ4) ∧ MS n tx σ4 W d (q + 1) c' ∧ (∀ w, w ∈ Q → mI σ4 73 w.2 = nI (1048576 * w.1 + c')) ∧ ∀ j, (∀ w, w ∈ Q → w.2 ≠ j) → mI σ4 73 j = mI σ' 73 j := by
  have hqn : q < n := hT.lt (by rw [hq]; decide)
  obtain ⟨σ1, b1, b2, b3, b4⟩ := mo_lands hN (W := (13, 0) :: W) (a := 1) (show nI 13 ≠ 11 by decide) (Or.inr (show nI 13 ≠ 12 by decide)) hc h hQ hl
  obtain ⟨σ2, c1, c2, c3⟩ := b2.pop
  obtain ⟨σ3, d1, d2, d3⟩ := c2.less
  obtain ⟨σ4, k1, k2, k3⟩ := d2.adv hqn
  have e73 : mI σ4 73 = mI σ1 73 := by rw [k3, d3, c3]
  exact ⟨σ4, ap_shut (by rw [mo_here hT h, hq]) b1 c1 d1 k1, k2, fun w hw => by rw [e73]; exact b3 w hw, fun j hj => by rw [e73]; exact b4 j hj⟩
theorem sp_7 (hN : 1000 < N) (hT : TX n tx) {d p q : Nat} {g : DN} (ec : tx p = 40) (h6 : d < 6) (S : SimPar N n tx (lcst 0) (d + 1) (p + 1) (.inr (q, g))) (hq : tx q = 41) : SimPie N n tx d p (.inr (q + 1, g)) := by
  intro σ W c x k h hx hw hw1 hd hcl hk
  have hn := hT.1
  obtain ⟨k92, k40, σ', c', Q, a1, a2, a3, a4, a5, a6, a7, a8, a9, b1, b2, b3, b4, b5, b6⟩ := sp_par (x := x) hT ec h6 S h hx hw hd hk
  have hqn : q < n := hT.lt (by rw [hq]; decide)
  obtain ⟨k92, rfl⟩ : ∃ z, k92 = z + 1 := ⟨k92 - 1, by omega⟩
  obtain ⟨σ4, c1, c2, c3, c4⟩ := par_shut (N := N) (k92 := k92) (k40 := k40) hN hT hq a4 (by omega) (by omega) b2
  rw [List.length_append, List.length_cons] at a6
  have hz : ¬ mI σ4 65 17 = 0 := by rw [c2.2.2.2.2.2.1]; exact nI_ne0 (by omega) (by omega)
  rw [if_neg hz] at c1
  refine ⟨N, k92, k40, σ4, c', a1.trans c1, by omega, by omega, by omega, c2, by omega, by omega, a7, by omega, fun j hj => ?_, ?_, b4⟩
  · rw [c4 j (fun w hw => by have := b3 w hw; omega), a9 j hj]
  · exact (b1 (mI σ4 73) (fun j _ _ q3 => c4 j q3) c3).up (by unfold hh; simp; omega)
/-- a comparison -/
theorem sp_8 (hN : 1000 < N) (hT : TX n tx) {d p : Nat} {b : Nat × Nat} (h33 : tx p ≠ 33) (h40 : tx p ≠ 40) (S : SimSum N n tx d p (.inl b)) : SimPie N n tx d p (.inl b) := by
  intro σ W c x k h hx hw hw1 hd hcl hk
  obtain ⟨kk, q⟩ := b
  obtain ⟨k, rfl⟩ : ∃ z, k = z + 1 := ⟨k - 1, by omega⟩
  obtain ⟨σ', a1, a2⟩ := mo_sum hN hT S h hx hw hd hcl
  refine ⟨σ', ch_bad (mo_here hT h) h33 h40 ?_, a2⟩
  unfold f_Mo_readsCompared
  rw [a1]
  simp only [bnd2_n, if_true]
theorem cm_no {c : Int32} (h : ¬ isCm c) : ((if c = 60 then some 7 else if c = 62 then some 8 else if c = 61 then some 9 else some (-1)) : Option Int32) = some (-1) := by
  rw [if_neg (fun z => h (Or.inl z)), if_neg (fun z => h (Or.inr (Or.inl z))), if_neg (fun z => h (Or.inr (Or.inr z)))]
theorem cm_yes {c : Int32} (h : isCm c) : ∃ o, 7 ≤ o ∧ o ≤ 9 ∧ ((if c = 60 then some 7 else if c = 62 then some 8 else if c = 61 then some 9 else some (-1)) : Option Int32) = some (nI o) ∧ chr o = c := by
  rcases h with rfl | rfl | rfl
  · exact ⟨7, by decide, by decide, by decide, by decide⟩
  · exact ⟨8, by decide, by decide, by decide, by decide⟩
  · exact ⟨9, by decide, by decide, by decide, by decide⟩
theorem sp_9 (hN : 1000 < N) (hT : TX n tx) {d p q : Nat} {g : DN} (h33 : tx p ≠ 33) (h40 : tx p ≠ 40) (S : SimSum N n tx d p (.inr (q, g))) (hq : ¬ isCm (tx q)) : SimPie N n tx d p (.inl (1, q)) := by
  intro σ W c x k h hx hw hw1 hd hcl hk
  obtain ⟨k, rfl⟩ : ∃ z, k = z + 1 := ⟨k - 1, by omega⟩
  obtain ⟨σ', c', a1, a2, -⟩ := mo_sum hN hT S h hx hw hd hcl
  obtain ⟨σ2, w1, w2⟩ := mo_wr a2.1 1 1 rfl
  refine ⟨σ2, ch_bad (mo_here hT h) h33 h40 ?_, w2⟩
  unfold f_Mo_readsCompared
  rw [a1]
  simp only [bnd2_n, if_neg ne10]
  rw [mo_here hT a2]
  simp only [bnd1_n]
  rw [cm_no hq]
  simp only [bnd1_n, if_true]
  exact w1
theorem cmp_go (hN : 1000 < N) (hT : TX n tx) {d p q : Nat} {g : DN} (S : SimSum N n tx d p (.inr (q, g))) (hq : isCm (tx q)) {σ : Mem} {W : List (Nat × Nat)} {c x : Nat} (h : MS n tx σ W d p c) (hx : c + x ≤ p) (hw : W.length ≤ p) (hd : d ≤ 6) (hcl : ¬ clo 1 (tpI W)) : ∃ (o : Nat) (σ1 : Mem) (c1 : Nat), 7 ≤ o ∧ o ≤ 9 ∧ chr o = tx q ∧ f_Mo_readsCompared N σ = (bnd2 (f_Mo_readsSum N σ1) fun r79 σ79 => if r79 = 0 then (some (0, σ79)) else (bnd1 (f_Mo_notes σ79 (nI o) 0) fun σ90 => bnd1 (f_Mo_endsPiece N σ90) fun σ94 => some (1, σ94))) ∧ MS n tx σ1 W d (q + 1) c1 ∧ c1 + (x + 1) ≤ q + 1 ∧ W.length ≤ q ∧ c ≤ c1 ∧ p ≤ q ∧ (∀ j, j < c → mI σ1 73 j = mI σ 73 j) ∧ SemX DM (mI σ1 73) c c1 (hh 3 d) g := by
  obtain ⟨σ', c', a1, a2, a3, a4, a5, a6, a7, a8⟩ := mo_sum hN hT S h hx hw hd hcl
  obtain ⟨o, o1, o2, o3, o4⟩ := cm_yes hq
  obtain ⟨σ1, b1, b2, b3⟩ := a2.adv (hT.lt (isCm_ne hq))
  refine ⟨o, σ1, c', o1, o2, o4, ?_, b2, by omega, a4, a5, a6, fun j hj => by rw [b3]; exact a7 j hj, by rw [b3]; exact a8⟩
  have hne : ¬ nI o = -1 := by rcases (show o = 7 ∨ o = 8 ∨ o = 9 by omega) with rfl | rfl | rfl <;> decide
  unfold f_Mo_readsCompared
  rw [a1]
  simp only [bnd2_n, if_neg ne10]
  rw [mo_here hT a2]
  simp only [bnd1_n]
  rw [o3]
  simp only [bnd1_n, if_neg hne]
  rw [letv_n, b1]
theorem sp_10 (hN : 1000 < N) (hT : TX n tx) {d p q : Nat} {g : DN} {b : Nat × Nat} (h33 : tx p ≠ 33) (h40 : tx p ≠ 40) (S : SimSum N n tx d p (.inr (q, g))) (hq : isCm (tx q)) (S2 : SimSum N n tx d (q + 1) (.inl b)) : SimPie N n tx d p (.inl b) := by
  intro σ W c x k h hx hw hw1 hd hcl hk
  obtain ⟨kk, q'⟩ := b
  obtain ⟨k, rfl⟩ : ∃ z, k = z + 1 := ⟨k - 1, by omega⟩
  obtain ⟨o, σ1, c1, o1, o2, o3, e, b1, b2, b3, b4, b5, b6, b7⟩ := cmp_go (x := x) hN hT S hq h hx hw hd hcl
  obtain ⟨σ', a1, a2⟩ := mo_sum hN hT S2 b1 b2 (by omega) hd hcl
  refine ⟨σ', ch_bad (mo_here hT h) h33 h40 ?_, a2⟩
  rw [e, a1]
  simp only [bnd2_n, if_true]
theorem sp_11 (hN : 1000 < N) (hT : TX n tx) {d p q q2 : Nat} {g g2 : DN} (h33 : tx p ≠ 33) (h40 : tx p ≠ 40) (S : SimSum N n tx d p (.inr (q, g))) (hq : isCm (tx q)) (S2 : SimSum N n tx d (q + 1) (.inr (q2, g2))) : SimPie N n tx d p (.inr (q2, binD (tx q) g g2)) := by
  intro σ W c x k h hx hw hw1 hd hcl hk
  have hn := hT.1
  obtain ⟨k, rfl⟩ : ∃ z, k = z + 1 := ⟨k - 1, by omega⟩
  obtain ⟨o, σ1, c1, o1, o2, o3, e, b1, b2, b3, b4, b5, b6, b7⟩ := cmp_go (x := x) hN hT S hq h hx hw hd hcl
  obtain ⟨σ2, c2, d1, d2, d3, d4, d5, d6, d7, d8⟩ := mo_sum hN hT S2 b1 b2 (by omega) hd hcl
  have hqn : q2 ≤ n := d2.2.2.2.2.2.2.2
  obtain ⟨σ3, e1, e2, e3⟩ := d2.notes (by omega) (nI o) 0
  refine ⟨N, N, k, σ3, c2 + 1, ch_cmp (mo_here hT h) h33 h40 ?_, by omega, by omega, by omega, e2, by omega, d4, by omega, by omega, fun j hj => ?_, ?_, B01.bin hq⟩
  · rw [e, d1]
    simp only [bnd2_n, if_neg ne10]
    rw [e1]
    simp only [bnd1_n]
  · rw [e3, up1_n _ _ (by omega), d7 j (by omega), b6 j hj]
  · have A : SemX DM (mI σ3 73) c c1 (hh 3 d) g := b7.k (fun j h1 h2 => by rw [e3, up1_n _ _ (by omega), d7 j h2])
    have B : SemX DM (mI σ3 73) c1 c2 (hh 3 d) g2 := d8.k (fun j h1 h2 => by rw [e3, up1_n _ _ (by omega)])
    rw [← o3]
    refine sem_mop A B (by unfold hh; simp) (by unfold hh; simp) (hh2 3 d) b4 d5 (by omega) (by omega) o2 ?_
    rw [e3, up1_s, Nat.add_zero, ← pk_mul]
    show 1048576 * nI o + 0 = nI 1048576 * nI o
    rw [Int32.add_zero]
    rfl
-- chains
theorem sc_pie {acc : DN} {d p : Nat} {o : Out} (S : SimPie N n tx d p o) {σ : Mem} {W : List (Nat × Nat)} {c s x k : Nat} {Q : List (Nat × Nat)} (h : MS n tx σ (Q ++ W) d p c) (hA : HA (mI σ 73) s c Q 11 1 acc (hh 1 d)) (hx : c + x ≤ p) (hl : (Q ++ W).length ≤ p) (hw : 1 ≤ W.length) (hd : d ≤ 6) (hW : tpI W = 12 ∨ tpI W = 13) (hk : n - p < k) : POut N n tx (L_Mo_readsCondition_l40 N k σ) σ (Q ++ W) d p c x o := S σ (Q ++ W) c x k h hx hl (by rw [List.length_append]; omega) hd (tp_q hA (Or.inl rfl) hW).1 hk
theorem sc_1 {acc : DN} {d p : Nat} {b : Nat × Nat} (S : SimPie N n tx d p (.inl b)) : SimPs N n tx acc d p (.inl b) := by
  intro σ W c s x k Q h hA hx hl hw hd hW hk
  obtain ⟨kk, q⟩ := b
  exact sc_pie S h hA hx hl hw hd hW hk
/-- behind a piece of a chain -/
theorem sc_in (hT : TX n tx) {acc g : DN} {d p q : Nat} (S : SimPie N n tx d p (.inr (q, g))) {σ : Mem} {W : List (Nat × Nat)} {c s x k : Nat} {Q : List (Nat × Nat)} (h : MS n tx σ (Q ++ W) d p c) (hA : HA (mI σ 73) s c Q 11 1 acc (hh 1 d)) (hx : c + x ≤ p) (hl : (Q ++ W).length ≤ p) (hw : 1 ≤ W.length) (hd : d ≤ 6) (hW : tpI W = 12 ∨ tpI W = 13) (hk : n - p < k) : ∃ (k92 k40 : Nat) (σ' : Mem) (c' : Nat), L_Mo_readsCondition_l40 N k σ = AP N k92 k40 σ' ∧ n - q < k92 ∧ n - q < k40 ∧ MS n tx σ' (Q ++ W) d q c' ∧ c' + x ≤ q ∧ (Q ++ W).length ≤ q ∧ s ≤ c' ∧ p ≤ q ∧ (∀ j, j < s → mI σ' 73 j = mI σ 73 j) ∧ PT (mI σ' 73) s c' Q (hh 1 d) (jD 0 acc g) ∧ JQ 0 (mI σ' 73) c' Q ∧ (∀ w, w ∈ Q → s ≤ w.2) ∧ B01 (jD 0 acc g) := by
  have hn := hT.1
  obtain ⟨ke, k92, k40, σ', c', b1, b2, b3, b4, b5, b6, b7, b8, b9, e1, e2, e3⟩ := sc_pie S h hA hx hl hw hd hW hk
  have hqn : q ≤ n := b5.2.2.2.2.2.2.2
  have hsc := hA.s_le
  obtain ⟨ke, rfl⟩ : ∃ z, ke = z + 1 := ⟨ke - 1, by omega⟩
  have f1 := ep_stop (N := N) (ke := ke) (k92 := k92) (k40 := k40) b5 (by omega) (tp_q hA (Or.inl rfl) hW).2
  obtain ⟨j1, j2⟩ := hA.jq (a := 0) (cd2 := mI σ' 73) (c' := c') (Or.inl rfl) (fun j _ hj => e1 j hj) b8
  refine ⟨k92, k40, σ', c', b1.trans f1, b3, b4, b5, b6, b7, by omega, b9, fun j hj => e1 j (by omega), ?_, j1, fun w hw => (j2 w hw).1, B01.j (Or.inl rfl) e3⟩
  have := ha_pt (cd2 := mI σ' 73) (c' := c') (Q2 := []) (g := g) hA (Or.inl ⟨rfl, rfl, rfl, rfl⟩) (fun j _ hj => e1 j hj) (pt_nil (e2.up (by unfold hh; simp))) (fun q hq => absurd hq (by simp)) b8 (by omega) (hh2 1 d)
  rw [List.nil_append] at this
  exact this
theorem sc_2 (hT : TX n tx) {acc g : DN} {d p q : Nat} (S : SimPie N n tx d p (.inr (q, g))) (hq : tx q ≠ 38) : SimPs N n tx acc d p (.inr (q, jD 0 acc g)) := by
  intro σ W c s x k Q h hA hx hl hw hd hW hk
  obtain ⟨k92, k40, σ', c', a1, a2, a3, a4, a5, a6, a7, a8, a9, b1, b2, b3, b4⟩ := sc_in (x := x) hT S h hA hx hl hw hd hW hk
  exact ⟨k92, k40, σ', c', Q, a1, a2, a3, a4, a5, a6, a7, a8, a9, b1, b2, b3, b4, hq, fun z => absurd z (by decide)⟩
theorem sc_3 (hN : 1000 < N) (hT : TX n tx) {acc g : DN} {d p q : Nat} {o : Out} (S : SimPie N n tx d p (.inr (q, g))) (hq : tx q = 38) (S2 : SimPs N n tx (jD 0 acc g) d (q + 1) o) : SimPs N n tx acc d p o := by
  intro σ W c s x k Q h hA hx hl hw hd hW hk
  have hn := hT.1
  have hqn : q < n := hT.lt (by rw [hq]; decide)
  obtain ⟨k92, k40, σ', c', a1, a2, a3, a4, a5, a6, a7, a8, a9, b1, b2, b3, b4⟩ := sc_in (x := x) hT S h hA hx hl hw hd hW hk
  obtain ⟨k92, rfl⟩ : ∃ z, k92 = z + 1 := ⟨k92 - 1, by omega⟩
  obtain ⟨σ1, c1, c2, c3, c4⟩ := mo_lands hN (W := W) (a := 0) (by rcases hW with z | z <;> rw [z] <;> decide) (Or.inl rfl) (by omega) a4 b2 (by omega)
  have hWl : W.length ≤ q := by rw [List.length_append] at a6; omega
  obtain ⟨σ2, d1, d2, d3⟩ := mo_jumps c2 (o := 11) (x := 11) (by omega) (by omega) hqn (by decide) rfl
  have hgo : AP N (k92 + 1) k40 σ' = L_Mo_readsCondition_l40 N k40 σ2 := ap_go (mo_here hT a4) (Or.inl ⟨hq, rfl, rfl⟩) c1 (mo_here hT c2) d1
  refine (S2 σ2 W (c' + 1) s x k40 [(11, c')] d2 (Or.inr ⟨c', rfl, a7, rfl, ?_, b4, by rw [d3, up1_s]⟩) (by omega) (by simp only [List.length_append, List.length_cons, List.length_nil]; omega) hw hd hW (by omega)).mono (a1.trans hgo) (by omega) (fun j hj => ?_)
  · refine (b1 (mI σ1 73) (fun j _ _ q3 => c4 j q3) c3).k (fun j _ hj => by rw [d3, up1_n _ _ (by omega)])
  · rw [d3, up1_n _ _ (by omega), c4 j (fun w hw => by have := b3 w hw; omega), a9 j hj]
theorem sd_ps {acc : DN} {d p : Nat} {o : Out} (S : SimPs N n tx (lcst 1) d p o) {σ : Mem} {W : List (Nat × Nat)} {c s x k : Nat} {Q : List (Nat × Nat)} (h : MS n tx σ (Q ++ W) d p c) (hA : HA (mI σ 73) s c Q 12 0 acc (hh 0 d)) (hx : c + x ≤ p) (hl : (Q ++ W).length ≤ p) (hw : 1 ≤ W.length) (hd : d ≤ 6) (hW : tpI W = 13) (hk : n - p < k) : QOut N n tx (L_Mo_readsCondition_l40 N k σ) σ (Q ++ W) d p c x 1 0 o := by
  refine S σ (Q ++ W) c c x k [] h (Or.inl ⟨rfl, rfl, rfl⟩) hx hl (by rw [List.length_append]; omega) hd ?_ hk
  rcases hA with ⟨rfl, -⟩ | ⟨f, rfl, -⟩
  · exact Or.inr hW
  · exact Or.inl rfl
theorem sd_1 {acc : DN} {d p : Nat} {b : Nat × Nat} (S : SimPs N n tx (lcst 1) d p (.inl b)) : SimPar N n tx acc d p (.inl b) := by
  intro σ W c s x k Q h hA hx hl hw hd hW hk
  obtain ⟨kk, q⟩ := b
  exact sd_ps S h hA hx hl hw hd hW hk
theorem sd_in (hT : TX n tx) {acc g : DN} {d p q : Nat} (S : SimPs N n tx (lcst 1) d p (.inr (q, g))) {σ : Mem} {W : List (Nat × Nat)} {c s x k : Nat} {Q : List (Nat × Nat)} (h : MS n tx σ (Q ++ W) d p c) (hA : HA (mI σ 73) s c Q 12 0 acc (hh 0 d)) (hx : c + x ≤ p) (hl : (Q ++ W).length ≤ p) (hw : 1 ≤ W.length) (hd : d ≤ 6) (hW : tpI W = 13) (hk : n - p < k) : ∃ (k92 k40 : Nat) (σ' : Mem) (c' : Nat) (Q2 : List (Nat × Nat)), L_Mo_readsCondition_l40 N k σ = AP N k92 k40 σ' ∧ n - q < k92 ∧ n - q < k40 ∧ MS n tx σ' (Q2 ++ Q ++ W) d q c' ∧ c' + x ≤ q ∧ (Q2 ++ Q ++ W).length ≤ q ∧ s ≤ c' ∧ p ≤ q ∧ (∀ j, j < s → mI σ' 73 j = mI σ 73 j) ∧ PT (mI σ' 73) s c' (Q2 ++ Q) (hh 0 d) (jD 1 acc g) ∧ JQ 1 (mI σ' 73) c' (Q2 ++ Q) ∧ (∀ w, w ∈ Q2 ++ Q → s ≤ w.2) ∧ B01 (jD 1 acc g) ∧ tx q ≠ 38 := by
  have hn := hT.1
  obtain ⟨k92, k40, σ', c', Q2, a1, a2, a3, a4, a5, a6, a7, a8, a9, b1, b2, b3, b4, b5, -⟩ := sd_ps (x := x) S h hA hx hl hw hd hW hk
  have hqn : q ≤ n := a4.2.2.2.2.2.2.2
  have hsc := hA.s_le
  obtain ⟨j1, j2⟩ := hA.jq (a := 1) (cd2 := mI σ' 73) (c' := c') (Or.inr ⟨rfl, by decide⟩) (fun j _ hj => a9 j hj) a7
  rw [← List.append_assoc] at a4 a6
  refine ⟨k92, k40, σ', c', Q2, a1, a2, a3, a4, a5, a6, by omega, a8, fun j hj => a9 j (by omega), ?_, JQ.app (by decide) b2 j1 b3 (fun q hq => (j2 q hq).2), fun w hw => ?_, B01.j (Or.inr rfl) b4, b5⟩
  · exact ha_pt (cd2 := mI σ' 73) (c' := c') (Q2 := Q2) (g := g) hA (Or.inr ⟨rfl, rfl, rfl, rfl⟩) (fun j _ hj => a9 j hj) (fun cd' u1 u2 => (b1 cd' u1 u2).up (by unfold hh; simp)) b3 a7 (by omega) (hh2 0 d)
  · rcases List.mem_append.mp hw with z | z
    · have := b3 w z; omega
    · exact (j2 w z).1
theorem sd_2 (hT : TX n tx) {acc g : DN} {d p q : Nat} (S : SimPs N n tx (lcst 1) d p (.inr (q, g))) (hq : tx q ≠ 124) : SimPar N n tx acc d p (.inr (q, jD 1 acc g)) := by
  intro σ W c s x k Q h hA hx hl hw hd hW hk
  obtain ⟨k92, k40, σ', c', Q2, a1, a2, a3, a4, a5, a6, a7, a8, a9, b1, b2, b3, b4, b5⟩ := sd_in (x := x) hT S h hA hx hl hw hd hW hk
  exact ⟨k92, k40, σ', c', Q2 ++ Q, a1, a2, a3, a4, a5, a6, a7, a8, a9, b1, b2, b3, b4, b5, fun _ => hq⟩
theorem sd_3 (hN : 1000 < N) (hT : TX n tx) {acc g : DN} {d p q : Nat} {o : Out} (S : SimPs N n tx (lcst 1) d p (.inr (q, g))) (hq : tx q = 124) (S2 : SimPar N n tx (jD 1 acc g) d (q + 1) o) : SimPar N n tx acc d p o := by
  intro σ W c s x k Q h hA hx hl hw hd hW hk
  have hn := hT.1
  have hqn : q < n := hT.lt (by rw [hq]; decide)
  obtain ⟨k92, k40, σ', c', Q2, a1, a2, a3, a4, a5, a6, a7, a8, a9, b1, b2, b3, b4, b5⟩ := sd_in (x := x) hT S h hA hx hl hw hd hW hk
  obtain ⟨k92, rfl⟩ : ∃ z, k92 = z + 1 := ⟨k92 - 1, by omega⟩
  obtain ⟨σ1, c1, c2, c3, c4⟩ := mo_lands hN (W := W) (a := 1) (by rw [hW]; decide) (Or.inr (by rw [hW]; decide)) (by omega) a4 b2 (by omega)
  have hWl : W.length ≤ q := by rw [List.length_append] at a6; omega
  obtain ⟨σ2, d1, d2, d3⟩ := mo_jumps c2 (o := 12) (x := 12) (by omega) (by omega) hqn (by decide) rfl
  have hgo : AP N (k92 + 1) k40 σ' = L_Mo_readsCondition_l40 N k40 σ2 := ap_go (mo_here hT a4) (Or.inr ⟨hq, rfl, rfl⟩) c1 (mo_here hT c2) d1
  refine (S2 σ2 W (c' + 1) s x k40 [(12, c')] d2 (Or.inr ⟨c', rfl, a7, rfl, ?_, b4, by rw [d3, up1_s]⟩) (by omega) (by simp only [List.length_append, List.length_cons, List.length_nil]; omega) hw hd hW (by omega)).mono (a1.trans hgo) (by omega) (fun j hj => ?_)
  · refine (b1 (mI σ1 73) (fun j _ _ q3 => c4 j q3) c3).k (fun j _ hj => by rw [d3, up1_n _ _ (by omega)])
  · rw [d3, up1_n _ _ (by omega), c4 j (fun w hw => by have := b3 w hw; omega), a9 j hj]
end SimC
/-- all that the reference does, by the kinds of the grammar -/
def SimM (N n : Nat) (tx : Nat → Int32) : MT := fun t acc d p o => match t with
  | 0 => SimPar N n tx acc d p o
  | 1 => SimPs N n tx acc d p o
  | 2 => SimPie N n tx d p o
  | 3 => SimSum N n tx d p o
  | 4 => SimTer N n tx d p o
  | 5 => SimFac N n tx d p o
  | 6 => SimSl N n tx acc d p o
  | _ + 7 => SimTl N n tx acc d p o
theorem sim_clo {N n : Nat} {tx : Nat → Int32} (hN : 1000 < N) (hT : TX n tx) : Clo tx (SimM N n tx) := by
  refine ⟨⟨?_, ?_, ?_, ?_, ?_, ?_, ?_, ?_⟩, ⟨?_, ?_, ?_, ?_, ?_⟩, ⟨?_, ?_, ?_, ?_, ?_⟩, ⟨?_, ?_, ?_, ?_, ?_, ?_, ?_, ?_, ?_, ?_, ?_⟩, ⟨?_, ?_, ?_, ?_, ?_, ?_⟩⟩
  · exact fun d p h1 h2 => sf_1 hT h1 h2
  · exact fun d p b h1 h2 h3 => sf_2 hN hT h1 h2 h3
  · exact fun d p q g h1 h2 h3 h4 => sf_3 hN hT h1 h2 h3 h4
  · exact fun d p q g h1 h2 h3 h4 => sf_4 hN hT h1 h2 h3 h4
  · exact fun d p m h1 h2 h3 h4 => sf_5 hN hT h1 h2 h3 h4
  · exact fun d p h1 => sf_6 hN hT h1
  · exact fun d p h1 => sf_7 hN hT h1
  · exact fun d p h1 h2 h3 => sf_8 hT h1 h2 h3
  · exact fun d p b h1 => st_1 h1
  · exact fun d p q g o h1 h2 => st_2 h1 h2
  · exact fun g d p h1 => st_3 h1
  · exact fun g d p b h1 h2 => st_4 hN hT h1 h2
  · exact fun g d p q g2 o h1 h2 h3 => st_5 hN hT h1 h2 h3
  · exact fun d p b h1 => ss_1 h1
  · exact fun d p q g o h1 h2 => ss_2 h1 h2
  · exact fun g d p h1 => ss_3 h1
  · exact fun g d p b h1 h2 => ss_4 hN hT h1 h2
  · exact fun g d p q g2 o h1 h2 h3 => ss_5 hN hT h1 h2 h3
  · exact fun d p h1 h2 => sp_1 hT h1 (Or.inl ⟨rfl, rfl⟩) h2
  · exact fun d p b h1 h2 h3 => sp_2 hT h1 h2 h3
  · exact fun d p q g h1 h2 h3 => sp_3 hT h1 h2 h3
  · exact fun d p h1 h2 => sp_1 hT h1 (Or.inr ⟨rfl, rfl⟩) h2
  · exact fun d p b h1 h2 h3 => sp_5 hT h1 h2 h3
  · exact fun d p q g h1 h2 h3 h4 => sp_6 hT h1 h2 h3 h4
  · exact fun d p q g h1 h2 h3 h4 => sp_7 hN hT h1 h2 h3 h4
  · exact fun d p b h1 h2 h3 => sp_8 hN hT h1 h2 h3
  · exact fun d p q g h1 h2 h3 h4 => sp_9 hN hT h1 h2 h3 h4
  · exact fun d p q g b h1 h2 h3 h4 h5 => sp_10 hN hT h1 h2 h3 h4 h5
  · exact fun d p q g q2 g2 h1 h2 h3 h4 h5 => sp_11 hN hT h1 h2 h3 h4 h5
  · exact fun a d p b h1 => sc_1 h1
  · exact fun a d p q g h1 h2 => sc_2 hT h1 h2
  · exact fun a d p q g o h1 h2 h3 => sc_3 hN hT h1 h2 h3
  · exact fun a d p b h1 => sd_1 h1
  · exact fun a d p q g h1 h2 => sd_2 hT h1 h2
  · exact fun a d p q g o h1 h2 h3 => sd_3 hN hT h1 h2 h3
