def layL : List ((FieldType × Nat) ⊕ (Nat × List Nat)) := [.inr (0, [4, 6, 13, 20, 22, 29, 0, 36, 44, 47, 50, 59, 66]), .inr (1, [5, 0]), .inl (.int, 260), .inr (2, [7, 0, 8, 9, 10, 0, 11, 12]), .inl (.int, 513), .inl (.int, 16), .inl (.int, 16), .inl (.int, 16), .inl (.int, 9), .inl (.int, 32), .inr (2, [14, 0, 15, 16, 17, 0, 18, 19]), .inl (.int, 513), .inl (.int, 16), .inl (.int, 16), .inl (.int, 16), .inl (.int, 9), .inl (.int, 32), .inr (3, [4, 13, 21, 0, 0, 0]), .inl (.int, 240), .inr (4, [23, 24, 25, 26, 27, 28, 0, 0, 0, 0]), .inl (.int, 17), .inl (.int, 17), .inl (.int, 17), .inl (.int, 17), .inl (.int, 17), .inl (.int, 6), .inr (4, [30, 31, 32, 33, 34, 35, 0, 0, 0, 0]), .inl (.int, 17), .inl (.int, 17), .inl (.int, 17), .inl (.int, 17), .inl (.int, 17), .inl (.int, 6), .inr (5, [22, 6, 37, 38, 39, 40, 0, 41, 42, 0, 43]), .inl (.boolean, 24), .inl (.int, 24), .inl (.int, 24), .inl (.int, 24), .inl (.int, 3456), .inl (.boolean, 144), .inl (.int, 144), .inr (6, [45, 46, 0, 0]), .inl (.int, 1728), .inl (.int, 12), .inr (7, [2, 2]), .inl (.int, 144), .inl (.int, 144), .inr (8, [51, 0, 52, 53, 54, 55, 56, 57, 58, 0, 1]), .inl (.int, 8), .inl (.int, 64), .inl (.int, 64), .inl (.int, 8), .inl (.int, 8), .inl (.long, 8), .inl (.long, 256), .inl (.int, 8), .inr (9, [0, 60, 61, 62, 63, 64, 65]), .inl (.int, 16), .inl (.int, 16), .inl (.int, 16), .inl (.boolean, 16), .inl (.int, 16), .inl (.int, 144), .inr (10, [67]), .inl (.int, 144), .inr (11, [0, 0, 0, 0, 69, 70, 71, 72, 73, 74, 75, 0, 0, 0, 0, 0, 0, 0, 0, 0, 0, 76, 77, 78, 79, 80, 81, 82, 83, 84, 85, 86, 87, 88, 89, 90, 91, 0, 0, 0, 92, 93, 94, 95, 96, 0, 0, 0, 97, 98, 99, 100, 101, 0, 1, 0, 102, 103, 104, 105, 106, 107, 0, 108, 109, 110, 111, 112, 0, 0, 0, 0, 0, 113, 114, 115, 116, 117, 118]), .inl (.int, 17), .inl (.int, 17), .inl (.int, 17), .inl (.int, 17), .inl (.int, 17), .inl (.int, 6), .inl (.byte, 260), .inl (.int, 260), .inl (.int, 260), .inl (.int, 16), .inl (.int, 16), .inl (.int, 16), .inl (.int, 16), .inl (.int, 260), .inl (.int, 16), .inl (.int, 16), .inl (.int, 16), .inl (.int, 16), .inl (.int, 260), .inl (.int, 9), .inl (.int, 3456), .inl (.boolean, 24), .inl (.boolean, 144), .inl (.int, 1728), .inl (.boolean, 144), .inl (.boolean, 144), .inl (.int, 144), .inl (.int, 144), .inl (.int, 8), .inl (.int, 256), .inl (.long, 256), .inl (.long, 8), .inl (.int, 8), .inl (.int, 16), .inl (.int, 16), .inl (.int, 16), .inl (.int, 16), .inl (.boolean, 16), .inl (.int, 3), .inl (.boolean, 3456), .inl (.int, 16), .inl (.int, 16), .inl (.int, 8), .inl (.int, 17), .inl (.int, 17), .inl (.int, 17), .inl (.int, 17), .inl (.int, 17), .inl (.int, 17), .inl (.int, 6)]
def lay1 : LY := fun k => layL.getD k (.inl (.int, 0))
theorem ly_0 : lay1 0 = .inr (0, [4, 6, 13, 20, 22, 29, 0, 36, 44, 47, 50, 59, 66]) := rfl
theorem ly_1 : lay1 1 = .inr (1, [5, 0]) := rfl
theorem ly_2 : lay1 2 = .inl (.int, 260) := rfl
theorem ly_3 : lay1 3 = .inr (2, [7, 0, 8, 9, 10, 0, 11, 12]) := rfl
theorem ly_4 : lay1 4 = .inl (.int, 513) := rfl
theorem ly_5 : lay1 5 = .inl (.int, 16) := rfl
theorem ly_6 : lay1 6 = .inl (.int, 16) := rfl
theorem ly_7 : lay1 7 = .inl (.int, 16) := rfl
theorem ly_8 : lay1 8 = .inl (.int, 9) := rfl
theorem ly_9 : lay1 9 = .inl (.int, 32) := rfl
theorem ly_10 : lay1 10 = .inr (2, [14, 0, 15, 16, 17, 0, 18, 19]) := rfl
theorem ly_11 : lay1 11 = .inl (.int, 513) := rfl
theorem ly_12 : lay1 12 = .inl (.int, 16) := rfl
theorem ly_13 : lay1 13 = .inl (.int, 16) := rfl
theorem ly_14 : lay1 14 = .inl (.int, 16) := rfl
theorem ly_15 : lay1 15 = .inl (.int, 9) := rfl
theorem ly_16 : lay1 16 = .inl (.int, 32) := rfl
theorem ly_17 : lay1 17 = .inr (3, [4, 13, 21, 0, 0, 0]) := rfl
theorem ly_18 : lay1 18 = .inl (.int, 240) := rfl
theorem ly_19 : lay1 19 = .inr (4, [23, 24, 25, 26, 27, 28, 0, 0, 0, 0]) := rfl
theorem ly_20 : lay1 20 = .inl (.int, 17) := rfl
theorem ly_21 : lay1 21 = .inl (.int, 17) := rfl
theorem ly_22 : lay1 22 = .inl (.int, 17) := rfl
theorem ly_23 : lay1 23 = .inl (.int, 17) := rfl
theorem ly_24 : lay1 24 = .inl (.int, 17) := rfl
theorem ly_25 : lay1 25 = .inl (.int, 6) := rfl
theorem ly_26 : lay1 26 = .inr (4, [30, 31, 32, 33, 34, 35, 0, 0, 0, 0]) := rfl
theorem ly_27 : lay1 27 = .inl (.int, 17) := rfl
theorem ly_28 : lay1 28 = .inl (.int, 17) := rfl
theorem ly_29 : lay1 29 = .inl (.int, 17) := rfl
theorem ly_30 : lay1 30 = .inl (.int, 17) := rfl
theorem ly_31 : lay1 31 = .inl (.int, 17) := rfl
theorem ly_32 : lay1 32 = .inl (.int, 6) := rfl
theorem ly_33 : lay1 33 = .inr (5, [22, 6, 37, 38, 39, 40, 0, 41, 42, 0, 43]) := rfl
theorem ly_34 : lay1 34 = .inl (.boolean, 24) := rfl
theorem ly_35 : lay1 35 = .inl (.int, 24) := rfl
theorem ly_36 : lay1 36 = .inl (.int, 24) := rfl
theorem ly_37 : lay1 37 = .inl (.int, 24) := rfl
theorem ly_38 : lay1 38 = .inl (.int, 3456) := rfl
theorem ly_39 : lay1 39 = .inl (.boolean, 144) := rfl
theorem ly_40 : lay1 40 = .inl (.int, 144) := rfl
theorem ly_41 : lay1 41 = .inr (6, [45, 46, 0, 0]) := rfl
theorem ly_42 : lay1 42 = .inl (.int, 1728) := rfl
theorem ly_43 : lay1 43 = .inl (.int, 12) := rfl
theorem ly_44 : lay1 44 = .inr (7, [2, 2]) := rfl
theorem ly_45 : lay1 45 = .inl (.int, 144) := rfl
theorem ly_46 : lay1 46 = .inl (.int, 144) := rfl
theorem ly_47 : lay1 47 = .inr (8, [51, 0, 52, 53, 54, 55, 56, 57, 58, 0, 1]) := rfl
theorem ly_48 : lay1 48 = .inl (.int, 8) := rfl
theorem ly_49 : lay1 49 = .inl (.int, 64) := rfl
theorem ly_50 : lay1 50 = .inl (.int, 64) := rfl
theorem ly_51 : lay1 51 = .inl (.int, 8) := rfl
theorem ly_52 : lay1 52 = .inl (.int, 8) := rfl
theorem ly_53 : lay1 53 = .inl (.long, 8) := rfl
theorem ly_54 : lay1 54 = .inl (.long, 256) := rfl
theorem ly_55 : lay1 55 = .inl (.int, 8) := rfl
theorem ly_56 : lay1 56 = .inr (9, [0, 60, 61, 62, 63, 64, 65]) := rfl
theorem ly_57 : lay1 57 = .inl (.int, 16) := rfl
theorem ly_58 : lay1 58 = .inl (.int, 16) := rfl
theorem ly_59 : lay1 59 = .inl (.int, 16) := rfl
theorem ly_60 : lay1 60 = .inl (.boolean, 16) := rfl
theorem ly_61 : lay1 61 = .inl (.int, 16) := rfl
theorem ly_62 : lay1 62 = .inl (.int, 144) := rfl
theorem ly_63 : lay1 63 = .inr (10, [67]) := rfl
theorem ly_64 : lay1 64 = .inl (.int, 144) := rfl
theorem ly_65 : lay1 65 = .inr (11, [0, 0, 0, 0, 69, 70, 71, 72, 73, 74, 75, 0, 0, 0, 0, 0, 0, 0, 0, 0, 0, 76, 77, 78, 79, 80, 81, 82, 83, 84, 85, 86, 87, 88, 89, 90, 91, 0, 0, 0, 92, 93, 94, 95, 96, 0, 0, 0, 97, 98, 99, 100, 101, 0, 1, 0, 102, 103, 104, 105, 106, 107, 0, 108, 109, 110, 111, 112, 0, 0, 0, 0, 0, 113, 114, 115, 116, 117, 118]) := rfl
theorem ly_66 : lay1 66 = .inl (.int, 17) := rfl
theorem ly_67 : lay1 67 = .inl (.int, 17) := rfl
theorem ly_68 : lay1 68 = .inl (.int, 17) := rfl
theorem ly_69 : lay1 69 = .inl (.int, 17) := rfl
theorem ly_70 : lay1 70 = .inl (.int, 17) := rfl
theorem ly_71 : lay1 71 = .inl (.int, 6) := rfl
theorem ly_72 : lay1 72 = .inl (.byte, 260) := rfl
theorem ly_73 : lay1 73 = .inl (.int, 260) := rfl
theorem ly_74 : lay1 74 = .inl (.int, 260) := rfl
theorem ly_75 : lay1 75 = .inl (.int, 16) := rfl
theorem ly_76 : lay1 76 = .inl (.int, 16) := rfl
theorem ly_77 : lay1 77 = .inl (.int, 16) := rfl
theorem ly_78 : lay1 78 = .inl (.int, 16) := rfl
theorem ly_79 : lay1 79 = .inl (.int, 260) := rfl
theorem ly_80 : lay1 80 = .inl (.int, 16) := rfl
theorem ly_81 : lay1 81 = .inl (.int, 16) := rfl
theorem ly_82 : lay1 82 = .inl (.int, 16) := rfl
theorem ly_83 : lay1 83 = .inl (.int, 16) := rfl
theorem ly_84 : lay1 84 = .inl (.int, 260) := rfl
theorem ly_85 : lay1 85 = .inl (.int, 9) := rfl
theorem ly_86 : lay1 86 = .inl (.int, 3456) := rfl
theorem ly_87 : lay1 87 = .inl (.boolean, 24) := rfl
theorem ly_88 : lay1 88 = .inl (.boolean, 144) := rfl
theorem ly_89 : lay1 89 = .inl (.int, 1728) := rfl
theorem ly_90 : lay1 90 = .inl (.boolean, 144) := rfl
theorem ly_91 : lay1 91 = .inl (.boolean, 144) := rfl
theorem ly_92 : lay1 92 = .inl (.int, 144) := rfl
theorem ly_93 : lay1 93 = .inl (.int, 144) := rfl
theorem ly_94 : lay1 94 = .inl (.int, 8) := rfl
theorem ly_95 : lay1 95 = .inl (.int, 256) := rfl
theorem ly_96 : lay1 96 = .inl (.long, 256) := rfl
theorem ly_97 : lay1 97 = .inl (.long, 8) := rfl
theorem ly_98 : lay1 98 = .inl (.int, 8) := rfl
theorem ly_99 : lay1 99 = .inl (.int, 16) := rfl
theorem ly_100 : lay1 100 = .inl (.int, 16) := rfl
theorem ly_101 : lay1 101 = .inl (.int, 16) := rfl
theorem ly_102 : lay1 102 = .inl (.int, 16) := rfl
theorem ly_103 : lay1 103 = .inl (.boolean, 16) := rfl
theorem ly_104 : lay1 104 = .inl (.int, 3) := rfl
theorem ly_105 : lay1 105 = .inl (.boolean, 3456) := rfl
theorem ly_106 : lay1 106 = .inl (.int, 16) := rfl
theorem ly_107 : lay1 107 = .inl (.int, 16) := rfl
theorem ly_108 : lay1 108 = .inl (.int, 8) := rfl
theorem ly_109 : lay1 109 = .inl (.int, 17) := rfl
theorem ly_110 : lay1 110 = .inl (.int, 17) := rfl
theorem ly_111 : lay1 111 = .inl (.int, 17) := rfl
theorem ly_112 : lay1 112 = .inl (.int, 17) := rfl
theorem ly_113 : lay1 113 = .inl (.int, 17) := rfl
theorem ly_114 : lay1 114 = .inl (.int, 17) := rfl
theorem ly_115 : lay1 115 = .inl (.int, 6) := rfl
abbrev nC : Nat := 116
abbrev ZX : Type := Launch × va_G × (FieldType → ClassId) × Nat × Heap × (Nat → Nat) × (Nat → Nat)
def mkB (Z : ZX) : BX := (Z.1, Z.2.1, Z.2.2.1, Z.2.2.2.1, Z.2.2.2.2.1, lay1, Z.2.2.2.2.2.1, Z.2.2.2.2.2.2)
abbrev rf (Z : ZX) (k : Nat) : Value := .ref (ad (bb (mkB Z)) k)
-- the words of the pure functions: a test, a name, steps one behind another
def grd {α : Type} (c : Bool) (x : Option α) : Option α := match c with
  | true => x
  | false => none
theorem grd_e {α : Type} {c : Bool} {x : Option α} {r : α} (h : grd c x = some r) : c = true ∧ x = some r := by
  cases c with
  | true => exact ⟨rfl, h⟩
  | false => cases h
theorem grd_t {α : Type} {c : Bool} {x : Option α} (h : c = true) : grd c x = x := by rw [h]; rfl
def letv {α β : Type} (a : α) (f : α → β) : β := f a
theorem letv_e {α β : Type} {a : α} {f : α → β} {r : β} (h : letv a f = r) : ∃ v, v = a ∧ f v = r := ⟨a, rfl, h⟩
def inb (i : Int32) (n : Nat) : Bool := decide (¬ i < 0) && decide (i.toNatClampNeg < n)
theorem inb_e {i : Int32} {n : Nat} (h : inb i n = true) : vp_in i n := by
  simp only [inb, Bool.and_eq_true, decide_eq_true_eq] at h
  intro q
  rcases q with q | q
  · exact h.1 q
  · omega
theorem ite_t {α : Type} {c : Prop} [Decidable c] {x y r : α} (hc : c) (h : (if c then x else y) = r) : x = r := by rw [if_pos hc] at h; exact h
theorem ite_f {α : Type} {c : Prop} [Decidable c] {x y r : α} (hc : ¬ c) (h : (if c then x else y) = r) : y = r := by rw [if_neg hc] at h; exact h
def sm {α β γ : Type} (x : α ⊕ β) (f : α → γ) (g : β → γ) : γ := match x with
  | .inl a => f a
  | .inr b => g b
theorem sm_l {α β γ : Type} {a : α} {f : α → γ} {g : β → γ} {r : γ} (h : sm (.inl a) f g = r) : f a = r := h
theorem sm_r {α β γ : Type} {b : β} {f : α → γ} {g : β → γ} {r : γ} (h : sm (.inr b) f g = r) : g b = r := h
def bnd0 {r : Type} (a : Option (Unit)) (f : Option r) : Option r := match a with
  | none => none
  | some () => f
theorem bnd0_e {r : Type} {a : Option Unit} {f : Option r} {z : r} (h : bnd0 a f = some z) : a = some () ∧ f = some z := by
  cases a with
  | none => cases h
  | some w => exact ⟨rfl, h⟩
def bnd1 {t0 r : Type} (a : Option (t0)) (f : t0 → Option r) : Option r := match a with
  | none => none
  | some x0 => f x0
theorem bnd1_e {t0 r : Type} {a : Option (t0)} {f : t0 → Option r} {z : r} (h : bnd1 a f = some z) : ∃ x0, a = some x0 ∧ f x0 = some z := by
  cases a with
  | none => cases h
  | some w => exact ⟨w, rfl, h⟩
theorem bnd1_s {t0 r : Type} {x0 : t0} {f : t0 → Option r} : bnd1 (some x0) f = f x0 := rfl
def bnd2 {t0 t1 r : Type} (a : Option (t0 × t1)) (f : t0 → t1 → Option r) : Option r := match a with
  | none => none
  | some (x0, x1) => f x0 x1
theorem bnd2_e {t0 t1 r : Type} {a : Option (t0 × t1)} {f : t0 → t1 → Option r} {z : r} (h : bnd2 a f = some z) : ∃ x0 x1, a = some (x0, x1) ∧ f x0 x1 = some z := by
  cases a with
  | none => cases h
  | some w => exact ⟨w.1, w.2, rfl, h⟩
theorem bnd2_s {t0 t1 r : Type} {x0 : t0} {x1 : t1} {f : t0 → t1 → Option r} : bnd2 (some (x0, x1)) f = f x0 x1 := rfl
def q2 {t0 t1 r : Type} (a : t0 × t1) (f : t0 → t1 → r) : r := match a with
  | (x0, x1) => f x0 x1
theorem q2_e {t0 t1 r : Type} {x0 : t0} {x1 : t1} {f : t0 → t1 → r} {z : r} (h : q2 (x0, x1) f = z) : f x0 x1 = z := h
def bnd3 {t0 t1 t2 r : Type} (a : Option (t0 × t1 × t2)) (f : t0 → t1 → t2 → Option r) : Option r := match a with
  | none => none
  | some (x0, x1, x2) => f x0 x1 x2
theorem bnd3_e {t0 t1 t2 r : Type} {a : Option (t0 × t1 × t2)} {f : t0 → t1 → t2 → Option r} {z : r} (h : bnd3 a f = some z) : ∃ x0 x1 x2, a = some (x0, x1, x2) ∧ f x0 x1 x2 = some z := by
  cases a with
  | none => cases h
  | some w => exact ⟨w.1, w.2.1, w.2.2, rfl, h⟩
theorem bnd3_s {t0 t1 t2 r : Type} {x0 : t0} {x1 : t1} {x2 : t2} {f : t0 → t1 → t2 → Option r} : bnd3 (some (x0, x1, x2)) f = f x0 x1 x2 := rfl
def q3 {t0 t1 t2 r : Type} (a : t0 × t1 × t2) (f : t0 → t1 → t2 → r) : r := match a with
  | (x0, x1, x2) => f x0 x1 x2
theorem q3_e {t0 t1 t2 r : Type} {x0 : t0} {x1 : t1} {x2 : t2} {f : t0 → t1 → t2 → r} {z : r} (h : q3 (x0, x1, x2) f = z) : f x0 x1 x2 = z := h
def bnd4 {t0 t1 t2 t3 r : Type} (a : Option (t0 × t1 × t2 × t3)) (f : t0 → t1 → t2 → t3 → Option r) : Option r := match a with
  | none => none
  | some (x0, x1, x2, x3) => f x0 x1 x2 x3
theorem bnd4_e {t0 t1 t2 t3 r : Type} {a : Option (t0 × t1 × t2 × t3)} {f : t0 → t1 → t2 → t3 → Option r} {z : r} (h : bnd4 a f = some z) : ∃ x0 x1 x2 x3, a = some (x0, x1, x2, x3) ∧ f x0 x1 x2 x3 = some z := by
  cases a with
  | none => cases h
  | some w => exact ⟨w.1, w.2.1, w.2.2.1, w.2.2.2, rfl, h⟩
theorem bnd4_s {t0 t1 t2 t3 r : Type} {x0 : t0} {x1 : t1} {x2 : t2} {x3 : t3} {f : t0 → t1 → t2 → t3 → Option r} : bnd4 (some (x0, x1, x2, x3)) f = f x0 x1 x2 x3 := rfl
def q4 {t0 t1 t2 t3 r : Type} (a : t0 × t1 × t2 × t3) (f : t0 → t1 → t2 → t3 → r) : r := match a with
  | (x0, x1, x2, x3) => f x0 x1 x2 x3
theorem q4_e {t0 t1 t2 t3 r : Type} {x0 : t0} {x1 : t1} {x2 : t2} {x3 : t3} {f : t0 → t1 → t2 → t3 → r} {z : r} (h : q4 (x0, x1, x2, x3) f = z) : f x0 x1 x2 x3 = z := h
def bnd5 {t0 t1 t2 t3 t4 r : Type} (a : Option (t0 × t1 × t2 × t3 × t4)) (f : t0 → t1 → t2 → t3 → t4 → Option r) : Option r := match a with
  | none => none
  | some (x0, x1, x2, x3, x4) => f x0 x1 x2 x3 x4
theorem bnd5_e {t0 t1 t2 t3 t4 r : Type} {a : Option (t0 × t1 × t2 × t3 × t4)} {f : t0 → t1 → t2 → t3 → t4 → Option r} {z : r} (h : bnd5 a f = some z) : ∃ x0 x1 x2 x3 x4, a = some (x0, x1, x2, x3, x4) ∧ f x0 x1 x2 x3 x4 = some z := by
  cases a with
  | none => cases h
  | some w => exact ⟨w.1, w.2.1, w.2.2.1, w.2.2.2.1, w.2.2.2.2, rfl, h⟩
theorem bnd5_s {t0 t1 t2 t3 t4 r : Type} {x0 : t0} {x1 : t1} {x2 : t2} {x3 : t3} {x4 : t4} {f : t0 → t1 → t2 → t3 → t4 → Option r} : bnd5 (some (x0, x1, x2, x3, x4)) f = f x0 x1 x2 x3 x4 := rfl
def q5 {t0 t1 t2 t3 t4 r : Type} (a : t0 × t1 × t2 × t3 × t4) (f : t0 → t1 → t2 → t3 → t4 → r) : r := match a with
  | (x0, x1, x2, x3, x4) => f x0 x1 x2 x3 x4
theorem q5_e {t0 t1 t2 t3 t4 r : Type} {x0 : t0} {x1 : t1} {x2 : t2} {x3 : t3} {x4 : t4} {f : t0 → t1 → t2 → t3 → t4 → r} {z : r} (h : q5 (x0, x1, x2, x3, x4) f = z) : f x0 x1 x2 x3 x4 = z := h
def bnd6 {t0 t1 t2 t3 t4 t5 r : Type} (a : Option (t0 × t1 × t2 × t3 × t4 × t5)) (f : t0 → t1 → t2 → t3 → t4 → t5 → Option r) : Option r := match a with
  | none => none
  | some (x0, x1, x2, x3, x4, x5) => f x0 x1 x2 x3 x4 x5
theorem bnd6_e {t0 t1 t2 t3 t4 t5 r : Type} {a : Option (t0 × t1 × t2 × t3 × t4 × t5)} {f : t0 → t1 → t2 → t3 → t4 → t5 → Option r} {z : r} (h : bnd6 a f = some z) : ∃ x0 x1 x2 x3 x4 x5, a = some (x0, x1, x2, x3, x4, x5) ∧ f x0 x1 x2 x3 x4 x5 = some z := by
  cases a with
  | none => cases h
  | some w => exact ⟨w.1, w.2.1, w.2.2.1, w.2.2.2.1, w.2.2.2.2.1, w.2.2.2.2.2, rfl, h⟩
theorem bnd6_s {t0 t1 t2 t3 t4 t5 r : Type} {x0 : t0} {x1 : t1} {x2 : t2} {x3 : t3} {x4 : t4} {x5 : t5} {f : t0 → t1 → t2 → t3 → t4 → t5 → Option r} : bnd6 (some (x0, x1, x2, x3, x4, x5)) f = f x0 x1 x2 x3 x4 x5 := rfl
def q6 {t0 t1 t2 t3 t4 t5 r : Type} (a : t0 × t1 × t2 × t3 × t4 × t5) (f : t0 → t1 → t2 → t3 → t4 → t5 → r) : r := match a with
  | (x0, x1, x2, x3, x4, x5) => f x0 x1 x2 x3 x4 x5
theorem q6_e {t0 t1 t2 t3 t4 t5 r : Type} {x0 : t0} {x1 : t1} {x2 : t2} {x3 : t3} {x4 : t4} {x5 : t5} {f : t0 → t1 → t2 → t3 → t4 → t5 → r} {z : r} (h : q6 (x0, x1, x2, x3, x4, x5) f = z) : f x0 x1 x2 x3 x4 x5 = z := h
def bnd7 {t0 t1 t2 t3 t4 t5 t6 r : Type} (a : Option (t0 × t1 × t2 × t3 × t4 × t5 × t6)) (f : t0 → t1 → t2 → t3 → t4 → t5 → t6 → Option r) : Option r := match a with
  | none => none
  | some (x0, x1, x2, x3, x4, x5, x6) => f x0 x1 x2 x3 x4 x5 x6
theorem bnd7_e {t0 t1 t2 t3 t4 t5 t6 r : Type} {a : Option (t0 × t1 × t2 × t3 × t4 × t5 × t6)} {f : t0 → t1 → t2 → t3 → t4 → t5 → t6 → Option r} {z : r} (h : bnd7 a f = some z) : ∃ x0 x1 x2 x3 x4 x5 x6, a = some (x0, x1, x2, x3, x4, x5, x6) ∧ f x0 x1 x2 x3 x4 x5 x6 = some z := by
  cases a with
  | none => cases h
  | some w => exact ⟨w.1, w.2.1, w.2.2.1, w.2.2.2.1, w.2.2.2.2.1, w.2.2.2.2.2.1, w.2.2.2.2.2.2, rfl, h⟩
theorem bnd7_s {t0 t1 t2 t3 t4 t5 t6 r : Type} {x0 : t0} {x1 : t1} {x2 : t2} {x3 : t3} {x4 : t4} {x5 : t5} {x6 : t6} {f : t0 → t1 → t2 → t3 → t4 → t5 → t6 → Option r} : bnd7 (some (x0, x1, x2, x3, x4, x5, x6)) f = f x0 x1 x2 x3 x4 x5 x6 := rfl
def q7 {t0 t1 t2 t3 t4 t5 t6 r : Type} (a : t0 × t1 × t2 × t3 × t4 × t5 × t6) (f : t0 → t1 → t2 → t3 → t4 → t5 → t6 → r) : r := match a with
  | (x0, x1, x2, x3, x4, x5, x6) => f x0 x1 x2 x3 x4 x5 x6
theorem q7_e {t0 t1 t2 t3 t4 t5 t6 r : Type} {x0 : t0} {x1 : t1} {x2 : t2} {x3 : t3} {x4 : t4} {x5 : t5} {x6 : t6} {f : t0 → t1 → t2 → t3 → t4 → t5 → t6 → r} {z : r} (h : q7 (x0, x1, x2, x3, x4, x5, x6) f = z) : f x0 x1 x2 x3 x4 x5 x6 = z := h
def bnd8 {t0 t1 t2 t3 t4 t5 t6 t7 r : Type} (a : Option (t0 × t1 × t2 × t3 × t4 × t5 × t6 × t7)) (f : t0 → t1 → t2 → t3 → t4 → t5 → t6 → t7 → Option r) : Option r := match a with
  | none => none
  | some (x0, x1, x2, x3, x4, x5, x6, x7) => f x0 x1 x2 x3 x4 x5 x6 x7
theorem bnd8_e {t0 t1 t2 t3 t4 t5 t6 t7 r : Type} {a : Option (t0 × t1 × t2 × t3 × t4 × t5 × t6 × t7)} {f : t0 → t1 → t2 → t3 → t4 → t5 → t6 → t7 → Option r} {z : r} (h : bnd8 a f = some z) : ∃ x0 x1 x2 x3 x4 x5 x6 x7, a = some (x0, x1, x2, x3, x4, x5, x6, x7) ∧ f x0 x1 x2 x3 x4 x5 x6 x7 = some z := by
  cases a with
  | none => cases h
  | some w => exact ⟨w.1, w.2.1, w.2.2.1, w.2.2.2.1, w.2.2.2.2.1, w.2.2.2.2.2.1, w.2.2.2.2.2.2.1, w.2.2.2.2.2.2.2, rfl, h⟩
theorem bnd8_s {t0 t1 t2 t3 t4 t5 t6 t7 r : Type} {x0 : t0} {x1 : t1} {x2 : t2} {x3 : t3} {x4 : t4} {x5 : t5} {x6 : t6} {x7 : t7} {f : t0 → t1 → t2 → t3 → t4 → t5 → t6 → t7 → Option r} : bnd8 (some (x0, x1, x2, x3, x4, x5, x6, x7)) f = f x0 x1 x2 x3 x4 x5 x6 x7 := rfl
def q8 {t0 t1 t2 t3 t4 t5 t6 t7 r : Type} (a : t0 × t1 × t2 × t3 × t4 × t5 × t6 × t7) (f : t0 → t1 → t2 → t3 → t4 → t5 → t6 → t7 → r) : r := match a with
  | (x0, x1, x2, x3, x4, x5, x6, x7) => f x0 x1 x2 x3 x4 x5 x6 x7
theorem q8_e {t0 t1 t2 t3 t4 t5 t6 t7 r : Type} {x0 : t0} {x1 : t1} {x2 : t2} {x3 : t3} {x4 : t4} {x5 : t5} {x6 : t6} {x7 : t7} {f : t0 → t1 → t2 → t3 → t4 → t5 → t6 → t7 → r} {z : r} (h : q8 (x0, x1, x2, x3, x4, x5, x6, x7) f = z) : f x0 x1 x2 x3 x4 x5 x6 x7 = z := h
def bnd9 {t0 t1 t2 t3 t4 t5 t6 t7 t8 r : Type} (a : Option (t0 × t1 × t2 × t3 × t4 × t5 × t6 × t7 × t8)) (f : t0 → t1 → t2 → t3 → t4 → t5 → t6 → t7 → t8 → Option r) : Option r := match a with
  | none => none
  | some (x0, x1, x2, x3, x4, x5, x6, x7, x8) => f x0 x1 x2 x3 x4 x5 x6 x7 x8
theorem bnd9_e {t0 t1 t2 t3 t4 t5 t6 t7 t8 r : Type} {a : Option (t0 × t1 × t2 × t3 × t4 × t5 × t6 × t7 × t8)} {f : t0 → t1 → t2 → t3 → t4 → t5 → t6 → t7 → t8 → Option r} {z : r} (h : bnd9 a f = some z) : ∃ x0 x1 x2 x3 x4 x5 x6 x7 x8, a = some (x0, x1, x2, x3, x4, x5, x6, x7, x8) ∧ f x0 x1 x2 x3 x4 x5 x6 x7 x8 = some z := by
  cases a with
  | none => cases h
  | some w => exact ⟨w.1, w.2.1, w.2.2.1, w.2.2.2.1, w.2.2.2.2.1, w.2.2.2.2.2.1, w.2.2.2.2.2.2.1, w.2.2.2.2.2.2.2.1, w.2.2.2.2.2.2.2.2, rfl, h⟩
theorem bnd9_s {t0 t1 t2 t3 t4 t5 t6 t7 t8 r : Type} {x0 : t0} {x1 : t1} {x2 : t2} {x3 : t3} {x4 : t4} {x5 : t5} {x6 : t6} {x7 : t7} {x8 : t8} {f : t0 → t1 → t2 → t3 → t4 → t5 → t6 → t7 → t8 → Option r} : bnd9 (some (x0, x1, x2, x3, x4, x5, x6, x7, x8)) f = f x0 x1 x2 x3 x4 x5 x6 x7 x8 := rfl
def q9 {t0 t1 t2 t3 t4 t5 t6 t7 t8 r : Type} (a : t0 × t1 × t2 × t3 × t4 × t5 × t6 × t7 × t8) (f : t0 → t1 → t2 → t3 → t4 → t5 → t6 → t7 → t8 → r) : r := match a with
  | (x0, x1, x2, x3, x4, x5, x6, x7, x8) => f x0 x1 x2 x3 x4 x5 x6 x7 x8
theorem q9_e {t0 t1 t2 t3 t4 t5 t6 t7 t8 r : Type} {x0 : t0} {x1 : t1} {x2 : t2} {x3 : t3} {x4 : t4} {x5 : t5} {x6 : t6} {x7 : t7} {x8 : t8} {f : t0 → t1 → t2 → t3 → t4 → t5 → t6 → t7 → t8 → r} {z : r} (h : q9 (x0, x1, x2, x3, x4, x5, x6, x7, x8) f = z) : f x0 x1 x2 x3 x4 x5 x6 x7 x8 = z := h
-- contracts of methods that make nothing, with their one answer and their one memory
def CI (Z : ZX) (d : Nat) (μ : MI) (as : List Value) (σ : Mem) (r : Int32) (σ' : Mem) : Prop := Ct (mkB Z) d μ as nC σ 0 0 (fun v t => v = some (.int r) ∧ t = σ')
def CJ (Z : ZX) (d : Nat) (μ : MI) (as : List Value) (σ : Mem) (r : Int64) (σ' : Mem) : Prop := Ct (mkB Z) d μ as nC σ 0 0 (fun v t => v = some (.long r) ∧ t = σ')
def CN (Z : ZX) (d : Nat) (μ : MI) (as : List Value) (σ σ' : Mem) : Prop := Ct (mkB Z) d μ as nC σ 0 0 (fun v t => v = none ∧ t = σ')
def CA (Z : ZX) (d : Nat) (μ : MI) (as : List Value) (σ : Mem) (a : Nat) (σ' : Mem) : Prop := Ct (mkB Z) d μ as nC σ 0 0 (fun v t => v = some (rf Z a) ∧ t = σ')
section VB
variable {Z : ZX} {Y : YX} {μ : MI} {d : Nat} {Q : State → Prop} {σ : Mem} {pc : Nat} {lv : List (Nat × Value)} {st : List Value}
theorem V.mem {B : BX} {kc ks n : Nat} {σ' : Mem} (e : σ' = σ) (K : V B Y μ d Q kc ks n σ' pc lv st) : V B Y μ d Q kc ks n σ pc lv st := e ▸ K
theorem V.topI {B : BX} {kc ks n : Nat} {x y : Int32} (e : y = x) (K : V B Y μ d Q kc ks n σ pc lv (.int y :: st)) : V B Y μ d Q kc ks n σ pc lv (.int x :: st) := e ▸ K
theorem V.topL {B : BX} {kc ks n : Nat} {x y : Int64} (e : y = x) (K : V B Y μ d Q kc ks n σ pc lv (.long y :: st)) : V B Y μ d Q kc ks n σ pc lv (.long x :: st) := e ▸ K
theorem V.ra {N k : Nat} {i : Int32} {j : Nat} (hk : k < nC) (hy : lay1 k = .inl (.int, N)) (hi : vp_in i N) (hj : i.toNatClampNeg = j) (hd : decode μ.2.1 pc = .ok (.iaload, 1)) (K : V (mkB Z) Y μ d Q 0 0 nC σ (pc + 1) lv (.int (mI σ k j) :: st)) : V (mkB Z) Y μ d Q 0 0 nC σ pc lv (.int i :: rf Z k :: st) := by subst hj; exact V.iald hk hy hi hd K
theorem V.rz {N k : Nat} {i : Int32} {j : Nat} (hk : k < nC) (hy : lay1 k = .inl (.boolean, N)) (hi : vp_in i N) (hj : i.toNatClampNeg = j) (hd : decode μ.2.1 pc = .ok (.baload, 1)) (K : V (mkB Z) Y μ d Q 0 0 nC σ (pc + 1) lv (.int (mI σ k j) :: st)) : V (mkB Z) Y μ d Q 0 0 nC σ pc lv (.int i :: rf Z k :: st) := by subst hj; exact V.zald hk hy hi hd K
theorem V.rb {N k : Nat} {i : Int32} {j : Nat} (hk : k < nC) (hy : lay1 k = .inl (.byte, N)) (hi : vp_in i N) (hj : i.toNatClampNeg = j) (hd : decode μ.2.1 pc = .ok (.baload, 1)) (K : V (mkB Z) Y μ d Q 0 0 nC σ (pc + 1) lv (.int (mI σ k j) :: st)) : V (mkB Z) Y μ d Q 0 0 nC σ pc lv (.int i :: rf Z k :: st) := by subst hj; exact V.bald hk hy hi hd K
theorem V.rl {N k : Nat} {i : Int32} {j : Nat} (hk : k < nC) (hy : lay1 k = .inl (.long, N)) (hi : vp_in i N) (hj : i.toNatClampNeg = j) (hd : decode μ.2.1 pc = .ok (.laload, 1)) (K : V (mkB Z) Y μ d Q 0 0 nC σ (pc + 1) lv (.long (mL σ k j) :: st)) : V (mkB Z) Y μ d Q 0 0 nC σ pc lv (.int i :: rf Z k :: st) := by subst hj; exact V.lald hk hy hi hd K
theorem V.wa {N k : Nat} {i x : Int32} {j : Nat} {σ' : Mem} (hk : k < nC) (hy : lay1 k = .inl (.int, N)) (hi : vp_in i N) (hj : i.toNatClampNeg = j) (hd : decode μ.2.1 pc = .ok (.iastore, 1)) (e : σ' = sI σ k j x) (K : V (mkB Z) Y μ d Q 0 0 nC σ' (pc + 1) lv st) : V (mkB Z) Y μ d Q 0 0 nC σ pc lv (.int x :: .int i :: rf Z k :: st) := by subst hj; subst e; exact V.iast hk hy hi hd K
theorem V.wz {N k : Nat} {i x : Int32} {j : Nat} {σ' : Mem} (hk : k < nC) (hy : lay1 k = .inl (.boolean, N)) (hi : vp_in i N) (hj : i.toNatClampNeg = j) (hd : decode μ.2.1 pc = .ok (.bastore, 1)) (e : σ' = sI σ k j (x &&& 1)) (K : V (mkB Z) Y μ d Q 0 0 nC σ' (pc + 1) lv st) : V (mkB Z) Y μ d Q 0 0 nC σ pc lv (.int x :: .int i :: rf Z k :: st) := by subst hj; subst e; exact V.zast hk hy hi hd K
theorem V.wb {N k : Nat} {i x : Int32} {j : Nat} {σ' : Mem} (hk : k < nC) (hy : lay1 k = .inl (.byte, N)) (hi : vp_in i N) (hj : i.toNatClampNeg = j) (hd : decode μ.2.1 pc = .ok (.bastore, 1)) (e : σ' = sI σ k j x.toInt8.toInt32) (K : V (mkB Z) Y μ d Q 0 0 nC σ' (pc + 1) lv st) : V (mkB Z) Y μ d Q 0 0 nC σ pc lv (.int x :: .int i :: rf Z k :: st) := by subst hj; subst e; exact V.bast hk hy hi hd K
theorem V.wl {N k : Nat} {i : Int32} {x : Int64} {j : Nat} {σ' : Mem} (hk : k < nC) (hy : lay1 k = .inl (.long, N)) (hi : vp_in i N) (hj : i.toNatClampNeg = j) (hd : decode μ.2.1 pc = .ok (.lastore, 1)) (e : σ' = sL σ k j x) (K : V (mkB Z) Y μ d Q 0 0 nC σ' (pc + 1) lv st) : V (mkB Z) Y μ d Q 0 0 nC σ pc lv (.long x :: .int i :: rf Z k :: st) := by subst hj; subst e; exact V.last hk hy hi hd K
theorem V.al {ty : FieldType} {t N k : Nat} {x : Int32} (hk : k < nC) (hy : lay1 k = .inl (ty, N)) (ht : (tysB (mkB Z))[t]? = some (bT (mkB Z) ty, ty)) (hx : Int32.ofNat N = x) (hd : decode μ.2.1 pc = .ok (.arraylength, 1)) (K : V (mkB Z) Y μ d Q 0 0 nC σ (pc + 1) lv (.int x :: st)) : V (mkB Z) Y μ d Q 0 0 nC σ pc lv (rf Z k :: st) := by subst hx; exact V.alen hk hy ht hd K
theorem V.vC {μ' : MI} {np ix d' k ci : Nat} {T : u_T} {N : Nat} {fk : List Nat} {as st0 : List Value} {post : Option Value → Mem → Prop} (hM : Ct (mkB Z) d' μ' (rf Z k :: as) nC σ 0 0 post) (hm : MOk μ' np ∧ IOk μ') (hl : Cond.methodLink μ.1.cls ix μ'.1 ∈ tblG) (hdd : d' + 1 ≤ d) (hn : as.length = np) (hk : k < nC) (hy : lay1 k = .inr (ci, fk)) (hC : classes[ci]? = some (μ'.1.cls, T, N)) (hs : st0 = as.reverse ++ rf Z k :: st) (hW : (st.map fun v => v.category).sum ≤ 8) (hd : decode μ.2.1 pc = .ok (.invokevirtual ix, 3))
    (K : ∀ (v : Option Value) (σ' : Mem), post v σ' → V (mkB Z) Y μ d Q 0 0 nC σ' (pc + 3) lv (v.toList ++ st)) : V (mkB Z) Y μ d Q 0 0 nC σ pc lv st0 :=
  V.callV hM hm.1 hm.2 hl hdd hn hk hy hC hs hW (fun R _ => ⟨Nat.zero_le _, Nat.zero_le _⟩) hd K
theorem V.sC {μ' : MI} {np ix d' : Nat} {as st0 : List Value} {post : Option Value → Mem → Prop} (hM : Ct (mkB Z) d' μ' as nC σ 0 0 post) (hm : MOk μ' np ∧ Cond.static μ'.1 ∈ tblG) (hl : Cond.methodLink μ.1.cls ix μ'.1 ∈ tblG) (hdd : d' + 1 ≤ d) (hn : as.length = np) (hs : st0 = as.reverse ++ st) (hW : (st.map fun v => v.category).sum ≤ 8) (hd : decode μ.2.1 pc = .ok (.invokestatic ix, 3))
    (K : ∀ (v : Option Value) (σ' : Mem), post v σ' → V (mkB Z) Y μ d Q 0 0 nC σ' (pc + 3) lv (v.toList ++ st)) : V (mkB Z) Y μ d Q 0 0 nC σ pc lv st0 :=
  V.callS hM hm.1 hm.2 hl hdd hn hs hW (fun R _ => ⟨Nat.zero_le _, Nat.zero_le _⟩) hd K
theorem V.tC {μ' : MI} {np ix d' : Nat} {host : String} {as st0 : List Value} {post : Option Value → Mem → Prop} (hM : Ct (mkB Z) d' μ' as nC σ 0 0 post) (hm : MOk μ' np ∧ Cond.static μ'.1 ∈ tblG) (hl : Cond.methodLinkNest μ.1.cls ix μ'.1 host ∈ nestW) (hdd : d' + 1 ≤ d) (hn : as.length = np) (hs : st0 = as.reverse ++ st) (hW : (st.map fun v => v.category).sum ≤ 8) (hd : decode μ.2.1 pc = .ok (.invokestatic ix, 3))
    (K : ∀ (v : Option Value) (σ' : Mem), post v σ' → V (mkB Z) Y μ d Q 0 0 nC σ' (pc + 3) lv (v.toList ++ st)) : V (mkB Z) Y μ d Q 0 0 nC σ pc lv st0 :=
  V.callSN hM hm.1 hm.2 hl hdd hn hs hW (fun R _ => ⟨Nat.zero_le _, Nat.zero_le _⟩) hd K
theorem V.vI {μ' : MI} {np ix d' k ci : Nat} {T : u_T} {N : Nat} {fk : List Nat} {as st0 : List Value} {σ' : Mem} {r : Int32} (hM : CI Z d' μ' (rf Z k :: as) σ r σ') (hm : MOk μ' np ∧ IOk μ') (hl : Cond.methodLink μ.1.cls ix μ'.1 ∈ tblG) (hdd : d' + 1 ≤ d) (hn : as.length = np) (hk : k < nC) (hy : lay1 k = .inr (ci, fk)) (hC : classes[ci]? = some (μ'.1.cls, T, N)) (hs : st0 = as.reverse ++ rf Z k :: st) (hW : (st.map fun v => v.category).sum ≤ 8) (hd : decode μ.2.1 pc = .ok (.invokevirtual ix, 3)) (K : V (mkB Z) Y μ d Q 0 0 nC σ' (pc + 3) lv (.int r :: st)) : V (mkB Z) Y μ d Q 0 0 nC σ pc lv st0 := V.vC hM hm hl hdd hn hk hy hC hs hW hd (fun v t h => by obtain ⟨rfl, rfl⟩ := h; exact K)
theorem V.vJ {μ' : MI} {np ix d' k ci : Nat} {T : u_T} {N : Nat} {fk : List Nat} {as st0 : List Value} {σ' : Mem} {r : Int64} (hM : CJ Z d' μ' (rf Z k :: as) σ r σ') (hm : MOk μ' np ∧ IOk μ') (hl : Cond.methodLink μ.1.cls ix μ'.1 ∈ tblG) (hdd : d' + 1 ≤ d) (hn : as.length = np) (hk : k < nC) (hy : lay1 k = .inr (ci, fk)) (hC : classes[ci]? = some (μ'.1.cls, T, N)) (hs : st0 = as.reverse ++ rf Z k :: st) (hW : (st.map fun v => v.category).sum ≤ 8) (hd : decode μ.2.1 pc = .ok (.invokevirtual ix, 3)) (K : V (mkB Z) Y μ d Q 0 0 nC σ' (pc + 3) lv (.long r :: st)) : V (mkB Z) Y μ d Q 0 0 nC σ pc lv st0 := V.vC hM hm hl hdd hn hk hy hC hs hW hd (fun v t h => by obtain ⟨rfl, rfl⟩ := h; exact K)
theorem V.vN {μ' : MI} {np ix d' k ci : Nat} {T : u_T} {N : Nat} {fk : List Nat} {as st0 : List Value} {σ' : Mem} (hM : CN Z d' μ' (rf Z k :: as) σ  σ') (hm : MOk μ' np ∧ IOk μ') (hl : Cond.methodLink μ.1.cls ix μ'.1 ∈ tblG) (hdd : d' + 1 ≤ d) (hn : as.length = np) (hk : k < nC) (hy : lay1 k = .inr (ci, fk)) (hC : classes[ci]? = some (μ'.1.cls, T, N)) (hs : st0 = as.reverse ++ rf Z k :: st) (hW : (st.map fun v => v.category).sum ≤ 8) (hd : decode μ.2.1 pc = .ok (.invokevirtual ix, 3)) (K : V (mkB Z) Y μ d Q 0 0 nC σ' (pc + 3) lv (st)) : V (mkB Z) Y μ d Q 0 0 nC σ pc lv st0 := V.vC hM hm hl hdd hn hk hy hC hs hW hd (fun v t h => by obtain ⟨rfl, rfl⟩ := h; exact K)
theorem V.vA {μ' : MI} {np ix d' k ci : Nat} {T : u_T} {N : Nat} {fk : List Nat} {as st0 : List Value} {σ' : Mem} {a : Nat} (hM : CA Z d' μ' (rf Z k :: as) σ a σ') (hm : MOk μ' np ∧ IOk μ') (hl : Cond.methodLink μ.1.cls ix μ'.1 ∈ tblG) (hdd : d' + 1 ≤ d) (hn : as.length = np) (hk : k < nC) (hy : lay1 k = .inr (ci, fk)) (hC : classes[ci]? = some (μ'.1.cls, T, N)) (hs : st0 = as.reverse ++ rf Z k :: st) (hW : (st.map fun v => v.category).sum ≤ 8) (hd : decode μ.2.1 pc = .ok (.invokevirtual ix, 3)) (K : V (mkB Z) Y μ d Q 0 0 nC σ' (pc + 3) lv (rf Z a :: st)) : V (mkB Z) Y μ d Q 0 0 nC σ pc lv st0 := V.vC hM hm hl hdd hn hk hy hC hs hW hd (fun v t h => by obtain ⟨rfl, rfl⟩ := h; exact K)
theorem V.sI {μ' : MI} {np ix d' : Nat} {as st0 : List Value} {σ' : Mem} {r : Int32} (hM : CI Z d' μ' as σ r σ') (hm : MOk μ' np ∧ Cond.static μ'.1 ∈ tblG) (hl : Cond.methodLink μ.1.cls ix μ'.1 ∈ tblG) (hdd : d' + 1 ≤ d) (hn : as.length = np) (hs : st0 = as.reverse ++ st) (hW : (st.map fun v => v.category).sum ≤ 8) (hd : decode μ.2.1 pc = .ok (.invokestatic ix, 3)) (K : V (mkB Z) Y μ d Q 0 0 nC σ' (pc + 3) lv (.int r :: st)) : V (mkB Z) Y μ d Q 0 0 nC σ pc lv st0 := V.sC hM hm hl hdd hn hs hW hd (fun v t h => by obtain ⟨rfl, rfl⟩ := h; exact K)
theorem V.sJ {μ' : MI} {np ix d' : Nat} {as st0 : List Value} {σ' : Mem} {r : Int64} (hM : CJ Z d' μ' as σ r σ') (hm : MOk μ' np ∧ Cond.static μ'.1 ∈ tblG) (hl : Cond.methodLink μ.1.cls ix μ'.1 ∈ tblG) (hdd : d' + 1 ≤ d) (hn : as.length = np) (hs : st0 = as.reverse ++ st) (hW : (st.map fun v => v.category).sum ≤ 8) (hd : decode μ.2.1 pc = .ok (.invokestatic ix, 3)) (K : V (mkB Z) Y μ d Q 0 0 nC σ' (pc + 3) lv (.long r :: st)) : V (mkB Z) Y μ d Q 0 0 nC σ pc lv st0 := V.sC hM hm hl hdd hn hs hW hd (fun v t h => by obtain ⟨rfl, rfl⟩ := h; exact K)
theorem V.sN {μ' : MI} {np ix d' : Nat} {as st0 : List Value} {σ' : Mem} (hM : CN Z d' μ' as σ  σ') (hm : MOk μ' np ∧ Cond.static μ'.1 ∈ tblG) (hl : Cond.methodLink μ.1.cls ix μ'.1 ∈ tblG) (hdd : d' + 1 ≤ d) (hn : as.length = np) (hs : st0 = as.reverse ++ st) (hW : (st.map fun v => v.category).sum ≤ 8) (hd : decode μ.2.1 pc = .ok (.invokestatic ix, 3)) (K : V (mkB Z) Y μ d Q 0 0 nC σ' (pc + 3) lv (st)) : V (mkB Z) Y μ d Q 0 0 nC σ pc lv st0 := V.sC hM hm hl hdd hn hs hW hd (fun v t h => by obtain ⟨rfl, rfl⟩ := h; exact K)
theorem V.sA {μ' : MI} {np ix d' : Nat} {as st0 : List Value} {σ' : Mem} {a : Nat} (hM : CA Z d' μ' as σ a σ') (hm : MOk μ' np ∧ Cond.static μ'.1 ∈ tblG) (hl : Cond.methodLink μ.1.cls ix μ'.1 ∈ tblG) (hdd : d' + 1 ≤ d) (hn : as.length = np) (hs : st0 = as.reverse ++ st) (hW : (st.map fun v => v.category).sum ≤ 8) (hd : decode μ.2.1 pc = .ok (.invokestatic ix, 3)) (K : V (mkB Z) Y μ d Q 0 0 nC σ' (pc + 3) lv (rf Z a :: st)) : V (mkB Z) Y μ d Q 0 0 nC σ pc lv st0 := V.sC hM hm hl hdd hn hs hW hd (fun v t h => by obtain ⟨rfl, rfl⟩ := h; exact K)
theorem V.tI {μ' : MI} {np ix d' : Nat} {host : String} {as st0 : List Value} {σ' : Mem} {r : Int32} (hM : CI Z d' μ' as σ r σ') (hm : MOk μ' np ∧ Cond.static μ'.1 ∈ tblG) (hl : Cond.methodLinkNest μ.1.cls ix μ'.1 host ∈ nestW) (hdd : d' + 1 ≤ d) (hn : as.length = np) (hs : st0 = as.reverse ++ st) (hW : (st.map fun v => v.category).sum ≤ 8) (hd : decode μ.2.1 pc = .ok (.invokestatic ix, 3)) (K : V (mkB Z) Y μ d Q 0 0 nC σ' (pc + 3) lv (.int r :: st)) : V (mkB Z) Y μ d Q 0 0 nC σ pc lv st0 := V.tC hM hm hl hdd hn hs hW hd (fun v t h => by obtain ⟨rfl, rfl⟩ := h; exact K)
theorem V.tJ {μ' : MI} {np ix d' : Nat} {host : String} {as st0 : List Value} {σ' : Mem} {r : Int64} (hM : CJ Z d' μ' as σ r σ') (hm : MOk μ' np ∧ Cond.static μ'.1 ∈ tblG) (hl : Cond.methodLinkNest μ.1.cls ix μ'.1 host ∈ nestW) (hdd : d' + 1 ≤ d) (hn : as.length = np) (hs : st0 = as.reverse ++ st) (hW : (st.map fun v => v.category).sum ≤ 8) (hd : decode μ.2.1 pc = .ok (.invokestatic ix, 3)) (K : V (mkB Z) Y μ d Q 0 0 nC σ' (pc + 3) lv (.long r :: st)) : V (mkB Z) Y μ d Q 0 0 nC σ pc lv st0 := V.tC hM hm hl hdd hn hs hW hd (fun v t h => by obtain ⟨rfl, rfl⟩ := h; exact K)
theorem V.tN {μ' : MI} {np ix d' : Nat} {host : String} {as st0 : List Value} {σ' : Mem} (hM : CN Z d' μ' as σ  σ') (hm : MOk μ' np ∧ Cond.static μ'.1 ∈ tblG) (hl : Cond.methodLinkNest μ.1.cls ix μ'.1 host ∈ nestW) (hdd : d' + 1 ≤ d) (hn : as.length = np) (hs : st0 = as.reverse ++ st) (hW : (st.map fun v => v.category).sum ≤ 8) (hd : decode μ.2.1 pc = .ok (.invokestatic ix, 3)) (K : V (mkB Z) Y μ d Q 0 0 nC σ' (pc + 3) lv (st)) : V (mkB Z) Y μ d Q 0 0 nC σ pc lv st0 := V.tC hM hm hl hdd hn hs hW hd (fun v t h => by obtain ⟨rfl, rfl⟩ := h; exact K)
theorem V.tA {μ' : MI} {np ix d' : Nat} {host : String} {as st0 : List Value} {σ' : Mem} {a : Nat} (hM : CA Z d' μ' as σ a σ') (hm : MOk μ' np ∧ Cond.static μ'.1 ∈ tblG) (hl : Cond.methodLinkNest μ.1.cls ix μ'.1 host ∈ nestW) (hdd : d' + 1 ≤ d) (hn : as.length = np) (hs : st0 = as.reverse ++ st) (hW : (st.map fun v => v.category).sum ≤ 8) (hd : decode μ.2.1 pc = .ok (.invokestatic ix, 3)) (K : V (mkB Z) Y μ d Q 0 0 nC σ' (pc + 3) lv (rf Z a :: st)) : V (mkB Z) Y μ d Q 0 0 nC σ pc lv st0 := V.tC hM hm hl hdd hn hs hW hd (fun v t h => by obtain ⟨rfl, rfl⟩ := h; exact K)
end VB
