/-! Level 2: the reference's small questions -/
def bi (b : Bool) : Int := if b then 1 else 0
theorem bi0 {b : Bool} : (bi b = 0) = (b = false) := by cases b <;> simp [bi]
theorem bi1 {b : Bool} : (bi b = 1) = (b = true) := by cases b <;> simp [bi]
theorem bi_01 (b : Bool) : bi b = 0 ∨ bi b = 1 := by cases b <;> simp [bi]
theorem bi_t : bi true = 1 := rfl
theorem bi_f : bi false = 0 := rfl
theorem bi_d {c : Prop} [Decidable c] (h : c) : bi (decide c) = 1 := by simp [bi, h]
theorem bi_n {c : Prop} [Decidable c] (h : ¬ c) : bi (decide c) = 0 := by simp [bi, h]
theorem ite_bi {α : Type} {b : Bool} {x y : α} : (if bi b = 0 then x else y) = if b then y else x := by cases b <;> simp [bi]
theorem ite_nbi {α : Type} {b : Bool} {x y : α} : (if ¬ bi b = 0 then x else y) = if b then x else y := by cases b <;> simp [bi]
theorem dec_congr {p q : Prop} [Decidable p] [Decidable q] (h : p ↔ q) : decide p = decide q := by simp [h]
def inB (v a b : Int) : Bool := decide (a ≤ v) && decide (v ≤ b)
theorem Mod_in_e (v a b : Int) (h : AH) : Mod_in v a b h = some (bi (inB v a b), h) := by
  unfold Mod_in inB
  simp only [lCmp_lt, lCmp_gt]
  by_cases h1 : v < a
  · simp [h1, bi]; omega
  · by_cases h2 : b < v
    · simp [h1, h2, bi]
    · simp [h1, h2, bi]
section R1
variable {h : AH}
def rN (h : AH) (t : Int) : Int := if t = 0 then hI h 402 2 else hI h 402 3
theorem Mod_manyOf_e (m : MS h) (t : Int) : Mod_manyOf 401 t h = some (rN h t, h) := by
  unfold Mod_manyOf rN
  simp (disch := first | assumption | omega) only [r_1, a_402]
  by_cases ht : t = 0 <;> simp [ht]
def num (h : AH) (row col : Int) : Int := if 3 ≤ col then hI h 404 (2 * row + col - 3).toNat else hI h 403 (3 * row + col).toNat
theorem Mod_numberAt_e (m : MS h) {row col : Int} (hr : 0 ≤ row) (hc : 0 ≤ col) (hc5 : col < 5) (hr2 : row < if 3 ≤ col then 8 else 12) : Mod_numberAt 401 row col h = some (num h row col, h) := by
  unfold Mod_numberAt num
  by_cases h3 : 3 ≤ col
  · rw [if_pos h3] at hr2
    simp (disch := first | assumption | omega) only [if_pos h3, r_3, wr_id, a_404]
  · rw [if_neg h3] at hr2
    simp (disch := first | assumption | omega) only [if_neg h3, r_2, wr_id, a_403]
theorem Mod_numR (m : MS h) {row col : Int} (hr : 0 ≤ row) (hr2 : row < 12) (hc : 0 ≤ col) (hc5 : col < 3) : Mod_numberAt 401 row col h = some (num h row col, h) := Mod_numberAt_e m hr hc (by omega) (by rw [if_neg (by omega)]; exact hr2)
theorem Mod_numS (m : MS h) {row col : Int} (hr : 0 ≤ row) (hr2 : row < 8) (hc : 3 ≤ col) (hc5 : col < 5) : Mod_numberAt 401 row col h = some (num h row col, h) := Mod_numberAt_e m hr (by omega) hc5 (by rw [if_pos hc]; exact hr2)
/-- what the reference's numbers always are -/
def MB (h : AH) : Prop := (0 ≤ hI h 402 2 ∧ hI h 402 2 ≤ 12) ∧ (0 ≤ hI h 402 3 ∧ hI h 402 3 ≤ 8) ∧ (0 ≤ hI h 401 10 ∧ hI h 401 10 ≤ 8) ∧ (0 ≤ hI h 402 5 ∧ hI h 402 5 ≤ 6) ∧
  ∀ q : Nat, q < 8 → (q : Int) < hI h 401 10 → (hI h 408 q = 0 ∨ hI h 408 q = 1 ∨ hI h 408 q = 2) ∧ (hI h 408 q = 2 → (0 ≤ hI h 409 q ∧ hI h 409 q < 3) ∧ 3 ≤ hI h 410 q ∧ hI h 410 q < 5) ∧ (0 ≤ hI h 413 q ∧ hI h 413 q ≤ 5) ∧ ∀ j : Nat, (j : Int) < hI h 413 q → 0 ≤ hI h 414 (5 * q + j) ∧ hI h 414 (5 * q + j) < 5 ∧ (hI h 408 q = 0 → hI h 414 (5 * q + j) < 3) ∧ (hI h 408 q = 1 → 3 ≤ hI h 414 (5 * q + j))
theorem rN_b (b : MB h) (t : Int) : 0 ≤ rN h t ∧ rN h t ≤ 12 ∧ (t ≠ 0 → rN h t ≤ 8) := by
  obtain ⟨b1, b2, -⟩ := b
  unfold rN; split <;> omega
def rIsRow (h : AH) (t row : Int) : Bool := decide (t = 0 ∨ t = 1) && (decide (0 ≤ row) && decide (row < rN h t))
theorem Mod_isRow_e (m : MS h) (b : MB h) (t row : Int) : Mod_isRow 401 t row h = some (bi (rIsRow h t row), h) := by
  unfold Mod_isRow rIsRow
  have hN := rN_b b t
  simp (disch := first | assumption | omega) only [Mod_in_e, bnd_some, ite_bi, c_m, Mod_manyOf_e m, wr_id]
  by_cases ht : t = 0 ∨ t = 1
  · rw [show inB t 0 1 = true by unfold inB; simp; omega]
    rw [show inB row 0 (rN h t - 1) = (decide (0 ≤ row) && decide (row < rN h t)) by unfold inB; congr 1; exact dec_congr (by omega)]
    simp only [ht, decide_true, Bool.true_and, if_true]
    cases (decide (0 ≤ row) && decide (row < rN h t)) <;> rfl
  · rw [show inB t 0 1 = false by unfold inB; simp; omega]
    simp [ht, bi]
theorem Mod_isQuery_e (m : MS h) (b : MB h) (q : Int) : Mod_isQuery 401 q h = some (bi (decide (0 ≤ q ∧ q < hI h 401 10)), h) := by
  obtain ⟨b1, b2, b3, b4, b5⟩ := b
  unfold Mod_isQuery
  simp (disch := first | assumption | omega) only [g_m, Mod_in_e, bnd_some, wr_id]
  rw [rz_k (bi_01 _)]
  congr 3
  unfold inB
  rw [← Bool.decide_and]
  exact dec_congr (by omega)
def rVd (h : AH) (q : Int) : Bool := decide (hI h 412 (5 * q).toNat < hI h 411 (5 * q).toNat)
theorem Mod_isVoid_e (m : MS h) {q : Int} (h0 : 0 ≤ q) (h1 : q < 8) : Mod_isVoid 401 q h = some (bi (rVd h q), h) := by
  unfold Mod_isVoid rVd
  simp (disch := first | assumption | omega) only [r_14, r_15, wr_id, a_411, a_412]
  by_cases hv : hI h 412 (5 * q).toNat < hI h 411 (5 * q).toNat
  · rw [if_neg (by omega), bi_d hv]
  · rw [if_pos (by omega), bi_n hv]
def hasB (s q : Int) : Bool := decide (iAnd (iShr s q) 1 = 1)
theorem Mod_has_e (s q : Int) (h : AH) : Mod_has s q h = some (bi (hasB s q), h) := by
  unfold Mod_has hasB
  by_cases hv : iAnd (iShr s q) 1 = 1
  · rw [if_neg (by omega), bi_d hv]
  · rw [if_pos hv, bi_n hv]
def rOn (h : AH) (q : Int) : Bool := !rVd h q && !hasB (hI h 402 4) q
theorem Mod_isOn_e (m : MS h) {q : Int} (h0 : 0 ≤ q) (h1 : q < 8) : Mod_isOn 401 q h = some (bi (rOn h q), h) := by
  unfold Mod_isOn rOn
  simp (disch := first | assumption | omega) only [c_m, Mod_isVoid_e m h0 h1, bnd_some, r_1, a_402, Mod_has_e, ite_nbi]
  show (if rVd h q = true then _ else if hasB (hI h 402 4) q = true then _ else _) = _
  cases rVd h q <;> cases hasB (hI h 402 4) q <;> rfl
def rHas (h : AH) (q k : Int) : Bool := decide (hI h 408 q.toNat = 2) || decide (hI h 408 q.toNat = k)
theorem Mod_hasKind_e (m : MS h) {q k : Int} (h0 : 0 ≤ q) (h1 : q < 8) : Mod_hasKind 401 q k h = some (bi (rHas h q k), h) := by
  unfold Mod_hasKind rHas
  simp (disch := first | assumption | omega) only [r_11, a_408]
  by_cases e1 : hI h 408 q.toNat = 2 <;> by_cases e2 : hI h 408 q.toNat = k <;> simp [e1, e2, bi]
def isOfB (s c : Int) : Bool := decide (s = 2) || (decide (s = 0) == decide (c < 3))
theorem Mod_isOf_e (s c : Int) (h : AH) : Mod_isOf s c h = some (bi (isOfB s c), h) := by
  unfold Mod_isOf Mod_isOf_L14 isOfB
  by_cases e1 : s = 2 <;> by_cases e2 : s = 0 <;> by_cases e3 : 3 ≤ c <;> simp [e1, e2, e3, bi] <;> omega
theorem Mod_isBase_e (m : MS h) : Mod_isBase 401 h = some (bi (decide (hI h 402 0 = 1)), h) := by
  unfold Mod_isBase
  simp (disch := first | assumption | omega) only [r_1, a_402]
  by_cases e : hI h 402 0 = 1
  · rw [bi_d e, if_neg (by simpa using e)]
  · rw [bi_n e, if_pos (by simpa using e)]
/-- a part, as a row of numbers -/
abbrev pf (h : AH) (of B : Nat) : Nat → Int := fun k => hI h of (B + k)
def inF (π : Nat → Int) (c : Int → Int) (t : Int) : Bool :=
  if t = 0 then inB (c 0) (π 3) (π 4) && (inB (c 1) (π 5) (π 6) && inB (c 2) (π 7) (π 8)) else inB (c 3) (π 9) (π 10) && inB (c 4) (π 11) (π 12)
theorem tN (z : Int) (n : Nat) (h : z = n) : z.toNat = n := by omega
theorem isInPart_s (m : MS h) {of n B k : Nat} (hk : hK h of = (21, n)) (hB : B + 13 ≤ n) (hn : n < 100000) {row to c : Int} (hc : 0 ≤ c) (hc5 : c < 5) (hr : 0 ≤ row) (hr2 : row < if 3 ≤ c then 8 else 12) : Mod_isInPart_L26 (k + 1) 401 of (B : Int) row to c h = if to ≤ c then some (1, h) else if inB (num h row c) (pf h of B (3 + 2 * c.toNat)) (pf h of B (4 + 2 * c.toNat)) then Mod_isInPart_L26 k 401 of (B : Int) row to (c + 1) h else some (0, h) := by
  rw [Mod_isInPart_L26]
  by_cases ht : to ≤ c
  · rw [if_pos ht, if_pos ht]
  · rw [if_neg ht, if_neg ht]
    simp (disch := first | assumption | omega) only [c_m, Mod_numberAt_e m hr hc hc5 hr2, bnd_some, wr_id, aI_k hk, Mod_in_e, ite_nbi]
    rw [tN ((B : Int) + 3 + 2 * c) (B + (3 + 2 * c.toNat)) (by omega), tN ((B : Int) + 4 + 2 * c) (B + (4 + 2 * c.toNat)) (by omega)]
theorem Mod_isInPart_e (m : MS h) {of n B : Nat} (hk : hK h of = (21, n)) (hB : B + 13 ≤ n) (hn : n < 100000) {t row : Int} (ht : t = 0 ∨ t = 1) (hr : 0 ≤ row) (hr2 : row < if t = 0 then 12 else 8) : Mod_isInPart 401 of (B : Int) t row h = some (bi (inF (pf h of B) (num h row) t), h) := by
  unfold Mod_isInPart Mod_isInPart_L9
  rcases ht with rfl | rfl
  · rw [if_pos rfl] at hr2
    rw [if_neg (by simp), if_neg (by simp), show FU = 999996 + 1 + 1 + 1 + 1 from rfl]
    rw [isInPart_s m hk hB hn (by decide) (by decide) hr (by simpa using hr2), isInPart_s m hk hB hn (by decide) (by decide) hr (by simpa using hr2), isInPart_s m hk hB hn (by decide) (by decide) hr (by simpa using hr2)]
    rw [Mod_isInPart_L26]
    unfold inF
    simp only [if_true]
    show (if _ then _ else if inB (num h row 0) (pf h of B 3) (pf h of B 4) = true then if _ then _ else if inB (num h row 1) (pf h of B 5) (pf h of B 6) = true then if _ then _ else if inB (num h row 2) (pf h of B 7) (pf h of B 8) = true then _ else _ else _ else _) = _
    cases inB (num h row 0) (pf h of B 3) (pf h of B 4) <;> cases inB (num h row 1) (pf h of B 5) (pf h of B 6) <;> cases inB (num h row 2) (pf h of B 7) (pf h of B 8) <;> rfl
  · rw [if_neg (by decide)] at hr2
    rw [if_pos (by decide), if_pos (by decide), show FU = 999996 + 1 + 1 + 1 + 1 from rfl]
    rw [isInPart_s m hk hB hn (by decide) (by decide) hr (by simpa using hr2), isInPart_s m hk hB hn (by decide) (by decide) hr (by simpa using hr2)]
    rw [Mod_isInPart_L26]
    unfold inF
    show (if _ then _ else if inB (num h row 3) (pf h of B 9) (pf h of B 10) = true then if _ then _ else if inB (num h row 4) (pf h of B 11) (pf h of B 12) = true then _ else _ else _) = _
    cases inB (num h row 3) (pf h of B 9) (pf h of B 10) <;> cases inB (num h row 4) (pf h of B 11) (pf h of B 12) <;> rfl
end R1
