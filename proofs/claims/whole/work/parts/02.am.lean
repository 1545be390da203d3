/-! AM: values, heap, what a heap of the machine is to it -/
abbrev AV : Type := Int ⊕ (Int ⊕ Nat)
abbrev vi (z : Int) : AV := Sum.inl z
abbrev vl (z : Int) : AV := Sum.inr (Sum.inl z)
abbrev vr (a : Nat) : AV := Sum.inr (Sum.inr a)
abbrev AH : Type := Nat × Nat × (Nat → Nat × Nat) × (Nat → Nat → Int) × (Nat → Nat → Nat)
def hN (h : AH) : Nat := h.1
def hS (h : AH) : Nat := h.2.1
def hK (h : AH) : Nat → Nat × Nat := h.2.2.1
def hI (h : AH) : Nat → Nat → Int := h.2.2.2.1
def hR (h : AH) : Nat → Nat → Nat := h.2.2.2.2
def up2 {α : Type} (f : Nat → Nat → α) (a k : Nat) (v : α) : Nat → Nat → α := fun b => if b = a then (fun j => if j = k then v else f a j) else f b
def sI (h : AH) (a k : Nat) (v : Int) : AH := (hN h, hS h, hK h, up2 (hI h) a k v, hR h)
def sR (h : AH) (a k : Nat) (v : Nat) : AH := (hN h, hS h, hK h, hI h, up2 (hR h) a k v)
/-- a new cell of a kind, a length (0 for an object), so many slots: all zero, all null -/
def nw (h : AH) (t n sl : Nat) : AH := (hN h + 1, hS h + sl, fun a => if a = 16 + hN h then (t, n) else hK h a, fun a => if a = 16 + hN h then (fun _ => 0) else hI h a, fun a => if a = 16 + hN h then (fun _ => 0) else hR h a)
def wr (z : Int) : Int := Int.bmod z 4294967296
def wr64 (z : Int) : Int := Int.bmod z 18446744073709551616
def inR (z : Int) : Prop := -2147483648 ≤ z ∧ z < 2147483648
def inR64 (z : Int) : Prop := -9223372036854775808 ≤ z ∧ z < 9223372036854775808
def vok (v : AV) : Prop := match v with
  | .inl z => inR z
  | .inr (.inl z) => inR64 z
  | .inr (.inr _) => True
abbrev AE : Type := Nat × (Nat → Nat) × (Nat → ClassId) × (Nat → Nat → Nat) × (Nat → ClassId)
def cad (E : AE) (a : Nat) : Nat := if a < 16 then E.2.1 a else E.1 + (a - 16)
def rv (E : AE) (a : Nat) : Value := if a = 0 then .null else .ref (cad E a)
def ro (E : AE) (a : Nat) : Option Nat := if a = 0 then none else some (cad E a)
theorem rf_ro (E : AE) (a : Nat) : va_rf (ro E a) = rv E a := by
  unfold ro rv; by_cases h : a = 0 <;> simp [h, va_rf]
def cv (E : AE) (v : AV) : Value := match v with
  | .inl z => .int (Int32.ofInt z)
  | .inr (.inl z) => .long (Int64.ofInt z)
  | .inr (.inr a) => rv E a
def cvp (E : AE) (q : Nat × AV) : Nat × Value := (q.1, cv E q.2)
/-- the kinds of the fields of each class: 0 an int, 1 a boolean, 2 a reference -/
def fKs : List (List Nat) := [[2, 2, 2, 2, 0], [2, 2, 2, 2, 2, 0, 0], [2, 0, 0, 1], [2], [2, 2, 2, 2, 0, 0], [2, 2, 1], [2, 0, 0, 0, 0], [2, 0], [2, 2, 1, 0, 0, 0, 0], [0, 0, 2, 0], [2, 2, 0, 0, 0], [2, 0, 2, 2, 0, 2, 2, 2, 2, 2, 2, 2], [0, 2, 2, 2, 2, 2, 0, 0, 0, 2, 0, 2, 2, 2, 2, 2, 2, 2, 0, 0, 0, 2, 0, 0, 0, 0, 2, 2, 2, 2, 2, 0, 0, 2, 0, 2, 0, 0, 0, 0, 0, 0, 2, 0, 0, 1, 2, 2, 0, 1]]
def cNs : List Nat := [5, 7, 4, 1, 6, 3, 5, 2, 7, 4, 5, 12, 50]
def fk (ci k : Nat) : Nat := (fKs.getD ci []).getD k 0
def cN (ci : Nat) : Nat := cNs.getD ci 0
def fV (E : AE) (h : AH) (ci a k : Nat) : Value := if fk ci k = 2 then rv E (hR h a k) else .int (Int32.ofInt (hI h a k))
def fL (E : AE) (h : AH) (ci a : Nat) : List Value := (List.range (cN ci)).map (fV E h ci a)
def cel (E : AE) (h : AH) (a : Nat) : va_E :=
  if (hK h a).1 < 20 then .inr ((hK h a).1 - 1, fL E h ((hK h a).1 - 1) a)
  else if (hK h a).1 < 30 then .inl (E.2.2.2.2 (hK h a).1, (hK h a).2, .inl fun i => Int32.ofInt (hI h a i))
  else .inl (E.2.2.2.2 (hK h a).1, (hK h a).2, .inr (.inr (.inr (.inr fun i => ro E (hR h a i)))))
def wsO (E : AE) (h : AH) : va_W := (List.range (hN h)).map fun k => (E.1 + k, cel E h (16 + k))
abbrev aD (E : AE) : va_G := (E.2.2.1, E.2.2.2.1)
/-- the array types by tags -/
def aTs : List (Nat × FieldType) := [(21, .int), (22, .byte), (23, .boolean), (31, .object RX5), (32, .object RX10), (33, .object RX8), (34, .object RX9), (35, .object RX2), (36, .object RX3)]
def atys (E : AE) : List (ClassId × FieldType) := aTs.map fun q => (E.2.2.2.2 q.1, q.2)
def aLo (E : AE) : Nat → Prop := fun q => E.1 ≤ q
/-- a heap of the machine is that of the AM -/
def RH (E : AE) (h : AH) (U : State) (H : Heap) : Prop :=
  H.size = E.1 + hN h ∧ va_P (aD E) vwCl (wsO E h) H ∧ (∀ a, (a < 15 ∨ 16 + hN h ≤ a) → hK h a = (0, 0)) ∧ (∀ a k, inR (hI h a k)) ∧ (∀ a, (hK h a).2 < 2 ^ 31) ∧
  ((hK h 15).1 = 0 ∨ ((hK h 15).1 = 24 ∧ E.2.1 15 < E.1 ∧ va_X (E.2.1 15) (hK h 15).2 (fun j => Int32.ofInt (hI h 15 j)) U H)) ∧
  ∀ a, 16 ≤ a → a < 16 + hN h → (hK h a).1 ≠ 0 ∧ ((hK h a).1 < 14 ∨ ((aTs.map (·.1)).contains (hK h a).1 = true))
theorem hN_sI (h : AH) (a k : Nat) (v : Int) : hN (sI h a k v) = hN h := rfl
theorem hS_sI (h : AH) (a k : Nat) (v : Int) : hS (sI h a k v) = hS h := rfl
theorem hK_sI (h : AH) (a k : Nat) (v : Int) : hK (sI h a k v) = hK h := rfl
theorem hR_sI (h : AH) (a k : Nat) (v : Int) : hR (sI h a k v) = hR h := rfl
theorem hI_sI (h : AH) (a k : Nat) (v : Int) : hI (sI h a k v) = up2 (hI h) a k v := rfl
theorem hN_sR (h : AH) (a k : Nat) (v : Nat) : hN (sR h a k v) = hN h := rfl
theorem hS_sR (h : AH) (a k : Nat) (v : Nat) : hS (sR h a k v) = hS h := rfl
theorem hK_sR (h : AH) (a k : Nat) (v : Nat) : hK (sR h a k v) = hK h := rfl
theorem hI_sR (h : AH) (a k : Nat) (v : Nat) : hI (sR h a k v) = hI h := rfl
theorem hR_sR (h : AH) (a k : Nat) (v : Nat) : hR (sR h a k v) = up2 (hR h) a k v := rfl
theorem up2_ne {α : Type} {f : Nat → Nat → α} {a b k : Nat} {v : α} (h : b ≠ a) : up2 f a k v b = f b := by simp [up2, h]
theorem up2_at {α : Type} {f : Nat → Nat → α} {a k j : Nat} {v : α} : up2 f a k v a j = if j = k then v else f a j := by simp [up2]
theorem inR_ofInt {z : Int} (h : inR z) : (Int32.ofInt z).toInt = z := Int32.toInt_ofInt_of_le h.1 h.2
theorem inR_toInt (x : Int32) : inR x.toInt := ⟨by have := Int32.le_toInt x; simpa using this, by have := Int32.toInt_lt x; simpa using this⟩
theorem inR_wr (z : Int) : inR (wr z) := by
  unfold wr inR
  have h1 := Int.le_bmod (x := z) (m := 4294967296) (by decide)
  have h2 := Int.bmod_lt (x := z) (m := 4294967296) (by decide)
  omega
theorem wr_id {z : Int} (h1 : -2147483648 ≤ z) (h2 : z < 2147483648) : wr z = z := by
  unfold wr
  exact Int.bmod_eq_of_le (by omega) (by omega)
theorem ofInt_wr (z : Int) : Int32.ofInt (wr z) = Int32.ofInt z := by
  apply Int32.toInt_inj.mp
  rw [inR_ofInt (inR_wr z), Int32.toInt_ofInt]
  rfl
theorem of_toInt (x : Int32) : Int32.ofInt x.toInt = x := Int32.ofInt_toInt x
theorem i32_inj {x y : Int} (hx : inR x) (hy : inR y) : Int32.ofInt x = Int32.ofInt y ↔ x = y := by
  constructor
  · intro h
    have := congrArg Int32.toInt h
    rwa [inR_ofInt hx, inR_ofInt hy] at this
  · intro h; rw [h]
theorem i32_lt {x y : Int} (hx : inR x) (hy : inR y) : Int32.ofInt x < Int32.ofInt y ↔ x < y := by
  rw [Int32.lt_iff_toInt_lt, inR_ofInt hx, inR_ofInt hy]
theorem i32_le {x y : Int} (hx : inR x) (hy : inR y) : Int32.ofInt x ≤ Int32.ofInt y ↔ x ≤ y := by
  rw [Int32.le_iff_toInt_le, inR_ofInt hx, inR_ofInt hy]
theorem i32_add (x y : Int) : Int32.ofInt x + Int32.ofInt y = Int32.ofInt (wr (x + y)) := by rw [ofInt_wr, Int32.ofInt_add]
theorem i32_sub (x y : Int) : Int32.ofInt x - Int32.ofInt y = Int32.ofInt (wr (x - y)) := by rw [ofInt_wr, Int32.ofInt_sub]
theorem i32_mul (x y : Int) : Int32.ofInt x * Int32.ofInt y = Int32.ofInt (wr (x * y)) := by rw [ofInt_wr, Int32.ofInt_mul]
theorem inR0 : inR 0 := ⟨by decide, by decide⟩
theorem i32_nneg {x : Int} (hx : inR x) : ¬ Int32.ofInt x < 0 ↔ 0 ≤ x := by
  have := i32_lt hx inR0
  rw [show Int32.ofInt 0 = 0 from rfl] at this
  rw [this]; omega
theorem i32_clamp {x : Int} (hx : inR x) : (Int32.ofInt x).toNatClampNeg = x.toNat := by
  show (Int32.ofInt x).toInt.toNat = _
  rw [inR_ofInt hx]
theorem i32_in {x : Int} {n : Nat} (hx : inR x) (h0 : 0 ≤ x) (h1 : x < n) : vp_in (Int32.ofInt x) n := by
  rw [vp_in_iff, inR_ofInt hx]; exact ⟨h0, h1⟩
