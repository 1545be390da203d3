/-! Level 2: rows and makes of parts, parts of queries -/
section R3
variable {h : AH}
/-- a row of numbers is another one -/
def sF (h : AH) (a : Nat) (f : Nat → Int) : AH := (hN h, hS h, hK h, fun b => if b = a then f else hI h b, hR h)
theorem sI_sF (h : AH) (a k : Nat) (v : Int) : sI h a k v = sF h a (fun j => if j = k then v else hI h a j) := rfl
theorem sF_sF (h : AH) (a : Nat) (f g : Nat → Int) : sF (sF h a f) a g = sF h a g := by
  unfold sF hN hS hK hI hR
  simp only [Prod.mk.injEq, true_and]
  refine ⟨?_, trivial⟩
  funext b
  by_cases hb : b = a <;> simp [hb]
theorem hI_sF (h : AH) (a b : Nat) (f : Nat → Int) : hI (sF h a f) b = if b = a then f else hI h b := rfl
theorem hI_sFs (h : AH) (a : Nat) (f : Nat → Int) : hI (sF h a f) a = f := by rw [hI_sF, if_pos rfl]
theorem hI_sFn (h : AH) {a b : Nat} (f : Nat → Int) (hb : b ≠ a) : hI (sF h a f) b = hI h b := by rw [hI_sF, if_neg hb]
theorem sF_id (h : AH) (a : Nat) : sF h a (hI h a) = h := by
  obtain ⟨n, s, k, i, r⟩ := h
  show (n, s, k, (fun b => if b = a then i a else i b), r) = _
  simp only [Prod.mk.injEq, true_and, and_true]
  funext b; by_cases hb : b = a <;> simp [hb]
theorem sF_comm (h : AH) {a b : Nat} (f g : Nat → Int) (hab : a ≠ b) : sF (sF h a f) b g = sF (sF h b g) a f := by
  unfold sF hN hS hK hI hR
  simp only [Prod.mk.injEq, true_and]
  refine ⟨?_, trivial⟩
  funext c
  by_cases h1 : c = a <;> by_cases h2 : c = b <;> simp_all
/-- pairs of rows of both tables in a part -/
def rows2 (π : Nat → Int) (c : Int → Int → Int) (NR NS : Nat) : Nat := sumR (fun r => cntR (fun s => decide (c r (π 1) = c s (π 2)) && (inF π (c r) 0 && inF π (c s) 1)) 0 NS) 0 NR
def rowsF (π : Nat → Int) (c : Int → Int → Int) (NR NS : Nat) : Nat := if 2 ≤ π 0 then rows2 π c NR NS else rows1 π c (π 0) (if π 0 = 0 then NR else NS)
/-- a part that may be asked for -/
def okP (π : Nat → Int) : Prop := (π 0 = 0 ∨ π 0 = 1 ∨ π 0 = 2) ∧ (π 0 = 2 → (0 ≤ π 1 ∧ π 1 < 3) ∧ 3 ≤ π 2 ∧ π 2 < 5)
theorem rowsNow_L36 (m : MS h) (b : MB h) {of n1 B : Nat} (hk : hK h of = (21, n1)) (hB : B + 13 ≤ n1) (hn1 : n1 < 100000) (hj : (0 ≤ pf h of B 1 ∧ pf h of B 1 < 3) ∧ 3 ≤ pf h of B 2 ∧ pf h of B 2 < 5) (k22 : Nat → Nat → Int → Int → Int → AH → Option (Int × AH)) {r : Nat} (hr : (r : Int) < hI h 402 2) : ∀ (n s fuel : Nat) (acc : Int), (s : Int) + n = hI h 402 3 → n < fuel → 0 ≤ acc → acc ≤ 8 * r + s → Mod_rowsNow_L36 k22 fuel 401 of (B : Int) acc (r : Int) (s : Int) h = k22 401 of (B : Int) (acc + (cntR (fun s => decide (num h r (pf h of B 1) = num h s (pf h of B 2)) && (inF (pf h of B) (num h r) 0 && inF (pf h of B) (num h s) 1)) s n : Nat)) ((r : Int) + 1) h
  | 0, s, fuel + 1, acc, hs, _, _, _ => by
    obtain ⟨b1, b2, -⟩ := b
    rw [Mod_rowsNow_L36, r_1 m, a_402 m (by decide) (by decide), if_pos (by show hI h 402 3 ≤ _; omega), wr_id (by omega) (by omega), cntR_0]; simp
  | n + 1, s, fuel + 1, acc, hs, hf, h0, h1 => by
    have b' := b
    obtain ⟨b1, b2, -⟩ := b
    rw [Mod_rowsNow_L36, r_1 m, a_402 m (by decide) (by decide), if_neg (by show ¬ hI h 402 3 ≤ _; omega)]
    simp (disch := first | assumption | omega) only [wr_id, aI_k hk]
    rw [tN ((B : Int) + 1) (B + 1) (by omega)]
    rw [c_m m, Mod_numR m (by omega) (by omega) hj.1.1 hj.1.2, bnd_some, aI_k hk (by omega) (by omega), tN ((B : Int) + 2) (B + 2) (by omega), c_m m, Mod_numS m (by omega) (by omega) hj.2.1 hj.2.2, bnd_some]
    have ih := fun acc h0 h1 => rowsNow_L36 m b' hk hB hn1 hj k22 hr n (s + 1) fuel acc (by omega) (by omega) h0 h1
    generalize hP : (fun s : Nat => decide (num h r (pf h of B 1) = num h s (pf h of B 2)) && (inF (pf h of B) (num h r) 0 && inF (pf h of B) (num h s) 1)) = P at ih ⊢
    have hPs : P s = (decide (num h r (pf h of B 1) = num h s (pf h of B 2)) && (inF (pf h of B) (num h r) 0 && inF (pf h of B) (num h s) 1)) := by rw [← hP]
    rw [cntR_s, hPs]
    unfold Mod_rowsNow_L77
    rw [wr_id (z := acc + 0) (by omega) (by omega), wr_id (z := acc + 1) (by omega) (by omega), wr_id (z := (s : Int) + 1) (by omega) (by omega), show (s : Int) + 1 = ((s + 1 : Nat) : Int) by omega]
    by_cases e : num h r (pf h of B 1) = num h s (pf h of B 2)
    · rw [if_neg (by simpa using e), if_neg (by decide), c_m m, Mod_isInPart_e m hk hB hn1 (Or.inl rfl) (by omega) (by rw [if_pos rfl]; omega), bnd_some, ite_bi, c_m m, Mod_isInPart_e m hk hB hn1 (Or.inr rfl) (by omega) (by rw [if_neg (by decide)]; omega), bnd_some, ite_bi, show decide (num h r (pf h of B 1) = num h s (pf h of B 2)) = true from decide_eq_true e]
      cases inF (pf h of B) (num h r) 0 <;> cases inF (pf h of B) (num h s) 1
      · rw [if_neg (by decide), ih _ (by omega) (by omega)]; congr 1; simp
      · rw [if_neg (by decide), ih _ (by omega) (by omega)]; congr 1; simp
      · rw [if_pos rfl, if_neg (by decide), ih _ (by omega) (by omega)]; congr 1; simp
      · rw [if_pos rfl, if_pos rfl, ih _ (by omega) (by omega)]; congr 1; simp; omega
    · rw [if_pos (by simpa using e), if_pos rfl, show decide (num h r (pf h of B 1) = num h s (pf h of B 2)) = false from decide_eq_false e, ih _ (by omega) (by omega)]; congr 1; simp
theorem rowsNow_L22 (m : MS h) (b : MB h) {of n1 B : Nat} (hk : hK h of = (21, n1)) (hB : B + 13 ≤ n1) (hn1 : n1 < 100000) (hj : (0 ≤ pf h of B 1 ∧ pf h of B 1 < 3) ∧ 3 ≤ pf h of B 2 ∧ pf h of B 2 < 5) : ∀ (n r fuel : Nat) (acc : Int), (r : Int) + n = hI h 402 2 → n < fuel → 0 ≤ acc → acc ≤ 8 * r → Mod_rowsNow_L22 fuel 401 of (B : Int) acc (r : Int) h = some (acc + (sumR (fun r => cntR (fun s => decide (num h r (pf h of B 1) = num h s (pf h of B 2)) && (inF (pf h of B) (num h r) 0 && inF (pf h of B) (num h s) 1)) 0 (hI h 402 3).toNat) r n : Nat), h)
  | 0, r, fuel + 1, acc, hr, _, _, _ => by
    rw [Mod_rowsNow_L22, r_1 m, a_402 m (by decide) (by decide), if_pos (by show hI h 402 2 ≤ _; omega), sumR_0]; simp
  | n + 1, r, fuel + 1, acc, hr, hf, h0, h1 => by
    have b' := b
    obtain ⟨b1, b2, -⟩ := b
    have hle := cntR_le (fun s => decide (num h r (pf h of B 1) = num h s (pf h of B 2)) && (inF (pf h of B) (num h r) 0 && inF (pf h of B) (num h s) 1)) (hI h 402 3).toNat 0
    rw [Mod_rowsNow_L22, r_1 m, a_402 m (by decide) (by decide), if_neg (by show ¬ hI h 402 2 ≤ _; omega)]
    have hi := rowsNow_L36 m b' hk hB hn1 hj (Mod_rowsNow_L22 fuel) (r := r) (by omega) (hI h 402 3).toNat 0 FU acc (by omega) (by have := FU_big; omega) h0 (by omega)
    rw [show ((0 : Nat) : Int) = 0 from rfl] at hi
    rw [hi, show (r : Int) + 1 = ((r + 1 : Nat) : Int) by omega, rowsNow_L22 m b' hk hB hn1 hj n (r + 1) fuel _ (by omega) (by omega) (by omega) (by omega), sumR_s]
    congr 2; omega
theorem Mod_rowsNow_e (m : MS h) (b : MB h) {of n1 B : Nat} (hk : hK h of = (21, n1)) (hB : B + 13 ≤ n1) (hn1 : n1 < 100000) (hp : okP (pf h of B)) : Mod_rowsNow 401 of (B : Int) h = some (((rowsF (pf h of B) (num h) (hI h 402 2).toNat (hI h 402 3).toNat : Nat) : Int), h) := by
  have b' := b
  obtain ⟨b1, b2, -⟩ := b
  obtain ⟨p1, p2⟩ := hp
  unfold Mod_rowsNow rowsF
  simp (disch := first | assumption | omega) only [aI_k hk]
  rw [tN (B : Int) B rfl]
  have e0 : hI h of B = pf h of B 0 := rfl
  rw [e0]
  by_cases h2 : 2 ≤ pf h of B 0
  · rw [if_pos h2, if_pos h2]
    have := rowsNow_L22 m b' hk hB hn1 (p2 (by omega)) (hI h 402 2).toNat 0 FU 0 (by omega) (by have := FU_big; omega) (by omega) (by omega)
    rw [Int.zero_add] at this
    exact this
  · rw [if_neg h2, if_neg h2, c_m m, Mod_rowsIn_e m b' hk hB hn1 (by omega), bnd_some]
    have e : (rN h (pf h of B 0)).toNat = if pf h of B 0 = 0 then (hI h 402 2).toNat else (hI h 402 3).toNat := by unfold rN; split <;> rfl
    rw [e]
def makeF (π : Nat → Int) (c : Int → Int → Int) (NR NS : Nat) : Nat := if 2 ≤ π 0 then NR + NS + rows1 π c 0 NR * rows1 π c 1 NS else if π 0 = 0 then NR else NS
theorem Mod_makeNow_e (m : MS h) (b : MB h) {of n1 B : Nat} (hk : hK h of = (21, n1)) (hB : B + 13 ≤ n1) (hn1 : n1 < 100000) (hp : okP (pf h of B)) : Mod_makeNow 401 of (B : Int) h = some (((makeF (pf h of B) (num h) (hI h 402 2).toNat (hI h 402 3).toNat : Nat) : Int), h) := by
  have b' := b
  obtain ⟨b1, b2, -⟩ := b
  obtain ⟨p1, p2⟩ := hp
  unfold Mod_makeNow makeF
  simp (disch := first | assumption | omega) only [aI_k hk]
  rw [tN (B : Int) B rfl]
  have e0 : hI h of B = pf h of B 0 := rfl
  rw [e0]
  by_cases h2 : 2 ≤ pf h of B 0
  · rw [if_pos h2, if_pos h2]
    rw [r_1 m, a_402 m (by decide) (by decide), r_1 m, a_402 m (by decide) (by decide), c_m m, Mod_rowsIn_e m b' hk hB hn1 (Or.inl rfl), bnd_some, c_m m, Mod_rowsIn_e m b' hk hB hn1 (Or.inr rfl), bnd_some]
    have l1 : rows1 (pf h of B) (num h) 0 (rN h 0).toNat ≤ 12 := Nat.le_trans (cntR_le _ _ _) (by have := rN_b b' 0; omega)
    have l2 : rows1 (pf h of B) (num h) 1 (rN h 1).toNat ≤ 8 := Nat.le_trans (cntR_le _ _ _) (by have := rN_b b' 1; omega)
    have l3 := Nat.mul_le_mul l1 l2
    rw [show (hI h 402 2).toNat = (rN h 0).toNat from rfl, show (hI h 402 3).toNat = (rN h 1).toNat from rfl]
    rw [show hI h 402 (2 : Int).toNat = rN h 0 from rfl, show hI h 402 (3 : Int).toNat = rN h 1 from rfl]
    have n0 := rN_b b' 0
    have n1 := rN_b b' 1
    rw [wr_id (z := rN h 0 + rN h 1) (by omega) (by omega), ← Int.natCast_mul]
    generalize rows1 (pf h of B) (num h) 0 (rN h 0).toNat * rows1 (pf h of B) (num h) 1 (rN h 1).toNat = P at l3 ⊢
    rw [wr_id (z := (P : Int)) (by omega) (by omega), wr_id (by omega) (by omega)]
    congr 2
    omega
  · rw [if_neg h2, if_neg h2, c_m m, Mod_manyOf_e m, bnd_some]
    congr 2
    unfold rN; split <;> omega
end R3
