/-! Level 2: parts of the reference -/
def allR (p : Nat → Bool) (k n : Nat) : Bool := (List.range' k n).all p
theorem allR_0 (p : Nat → Bool) (k : Nat) : allR p k 0 = true := rfl
theorem allR_s (p : Nat → Bool) (k n : Nat) : allR p k (n + 1) = (p k && allR p (k + 1) n) := by simp [allR, List.range'_succ]
def cntR (p : Nat → Bool) (k n : Nat) : Nat := (List.range' k n).countP p
theorem cntR_0 (p : Nat → Bool) (k : Nat) : cntR p k 0 = 0 := rfl
theorem cntR_s (p : Nat → Bool) (k n : Nat) : cntR p k (n + 1) = (if p k then 1 else 0) + cntR p (k + 1) n := by
  simp [cntR, List.range'_succ, List.countP_cons]; split <;> omega
theorem cntR_le (p : Nat → Bool) : ∀ n k, cntR p k n ≤ n
  | 0, _ => Nat.le_refl _
  | n + 1, k => by rw [cntR_s]; have := cntR_le p n (k + 1); split <;> omega
def sumR (f : Nat → Nat) (k n : Nat) : Nat := ((List.range' k n).map f).sum
theorem sumR_0 (f : Nat → Nat) (k : Nat) : sumR f k 0 = 0 := rfl
theorem sumR_s (f : Nat → Nat) (k n : Nat) : sumR f k (n + 1) = f k + sumR f (k + 1) n := by simp [sumR, List.range'_succ]
theorem sumR_le {f : Nat → Nat} {c : Nat} (hf : ∀ i, f i ≤ c) : ∀ n k, sumR f k n ≤ c * n
  | 0, _ => by rw [sumR_0]; omega
  | n + 1, k => by rw [sumR_s, Nat.mul_succ]; have := sumR_le hf n (k + 1); have := hf k; omega
section R2
variable {h : AH}
def sameF (π σ : Nat → Int) : Bool := allR (fun k => decide (π k = σ k)) 0 13
theorem areSame_L {a b n1 n2 A B : Nat} (ha : hK h a = (21, n1)) (hb : hK h b = (21, n2)) (hA : A + 13 ≤ n1) (hB : B + 13 ≤ n2) (h1 : n1 < 100000) (h2 : n2 < 100000) : ∀ (n k fuel : Nat), k + n = 13 → n < fuel → Mod_areSame_L3 fuel a (A : Int) b (B : Int) (k : Int) h = some (bi (allR (fun k => decide (pf h a A k = pf h b B k)) k n), h)
  | 0, k, fuel + 1, hk, _ => by rw [Mod_areSame_L3, if_pos (by omega)]; rfl
  | n + 1, k, fuel + 1, hk, hf => by
    rw [Mod_areSame_L3, if_neg (by omega)]
    simp (disch := first | assumption | omega) only [wr_id, aI_k ha, aI_k hb]
    rw [tN ((A : Int) + k) (A + k) (by omega), tN ((B : Int) + k) (B + k) (by omega), allR_s]
    by_cases e : hI h a (A + k) = hI h b (B + k)
    · rw [if_pos e, show (k : Int) + 1 = ((k + 1 : Nat) : Int) by omega, areSame_L ha hb hA hB h1 h2 n (k + 1) fuel (by omega) (by omega), show decide (pf h a A k = pf h b B k) = true from decide_eq_true e, Bool.true_and]
    · rw [if_neg e, show decide (pf h a A k = pf h b B k) = false from decide_eq_false e]; rfl
theorem Mod_areSame_e {a b n1 n2 A B : Nat} (ha : hK h a = (21, n1)) (hb : hK h b = (21, n2)) (hA : A + 13 ≤ n1) (hB : B + 13 ≤ n2) (h1 : n1 < 100000) (h2 : n2 < 100000) : Mod_areSame a (A : Int) b (B : Int) h = some (bi (sameF (pf h a A) (pf h b B)), h) := areSame_L ha hb hA hB h1 h2 13 0 FU rfl (by decide)
def oneF (π σ : Nat → Int) : Bool := decide (π 0 = σ 0) && (decide (π 1 = σ 1) && decide (π 2 = σ 2))
theorem Mod_areOfOne_e {a b n1 n2 A B : Nat} (ha : hK h a = (21, n1)) (hb : hK h b = (21, n2)) (hA : A + 13 ≤ n1) (hB : B + 13 ≤ n2) (h1 : n1 < 100000) (h2 : n2 < 100000) : Mod_areOfOne a (A : Int) b (B : Int) h = some (bi (oneF (pf h a A) (pf h b B)), h) := by
  unfold Mod_areOfOne oneF
  simp (disch := first | assumption | omega) only [wr_id, aI_k ha, aI_k hb]
  rw [tN (A : Int) A rfl, tN (B : Int) B rfl, tN ((A : Int) + 1) (A + 1) (by omega), tN ((B : Int) + 1) (B + 1) (by omega), tN ((A : Int) + 2) (A + 2) (by omega), tN ((B : Int) + 2) (B + 2) (by omega)]
  show _ = some (bi (decide (hI h a A = hI h b B) && (decide (hI h a (A + 1) = hI h b (B + 1)) && decide (hI h a (A + 2) = hI h b (B + 2)))), h)
  by_cases e1 : hI h a A = hI h b B <;> by_cases e2 : hI h a (A + 1) = hI h b (B + 1) <;> by_cases e3 : hI h a (A + 2) = hI h b (B + 2) <;> simp [e1, e2, e3, bi]
def holdF (π σ : Nat → Int) : Bool := oneF π σ && allR (fun c => decide (π (3 + 2 * c) ≤ σ (3 + 2 * c)) && decide (σ (4 + 2 * c) ≤ π (4 + 2 * c))) 0 5
theorem doesHold_L {a b n1 n2 A B : Nat} (ha : hK h a = (21, n1)) (hb : hK h b = (21, n2)) (hA : A + 13 ≤ n1) (hB : B + 13 ≤ n2) (h1 : n1 < 100000) (h2 : n2 < 100000) : ∀ (n k fuel : Nat) (v : Bool), k + n = 5 → n < fuel → Mod_doesHold_L12 fuel a (A : Int) b (B : Int) (bi v) (k : Int) h = some (bi (v && allR (fun c => decide (pf h a A (3 + 2 * c) ≤ pf h b B (3 + 2 * c)) && decide (pf h b B (4 + 2 * c) ≤ pf h a A (4 + 2 * c))) k n), h)
  | 0, k, fuel + 1, v, hk, _ => by rw [Mod_doesHold_L12, if_pos (by omega), rz_k (bi_01 _), allR_0, Bool.and_true]
  | n + 1, k, fuel + 1, v, hk, hf => by
    rw [Mod_doesHold_L12, if_neg (by omega)]
    cases v
    · rw [if_pos bi_f, rz_k (bi_01 _)]; rfl
    · rw [if_neg (by rw [bi_t]; decide)]
      simp (disch := first | assumption | omega) only [wr_id, aI_k ha, aI_k hb]
      rw [tN ((A : Int) + 3 + 2 * k) (A + (3 + 2 * k)) (by omega), tN ((B : Int) + 3 + 2 * k) (B + (3 + 2 * k)) (by omega), tN ((A : Int) + 4 + 2 * k) (A + (4 + 2 * k)) (by omega), tN ((B : Int) + 4 + 2 * k) (B + (4 + 2 * k)) (by omega), allR_s, Bool.true_and]
      rw [show (k : Int) + 1 = ((k + 1 : Nat) : Int) by omega]
      have ih := fun v => doesHold_L ha hb hA hB h1 h2 n (k + 1) fuel v (by omega) (by omega)
      have i0 := ih false
      have i1 := ih true
      rw [bi_f] at i0
      rw [bi_t] at i1
      by_cases e1 : hI h b (B + (3 + 2 * k)) < hI h a (A + (3 + 2 * k))
      · rw [if_pos e1, i0, show decide (pf h a A (3 + 2 * k) ≤ pf h b B (3 + 2 * k)) = false from decide_eq_false (Int.not_le.mpr e1)]; rfl
      · rw [if_neg e1, show decide (pf h a A (3 + 2 * k) ≤ pf h b B (3 + 2 * k)) = true from decide_eq_true (Int.not_lt.mp e1)]
        by_cases e2 : hI h a (A + (4 + 2 * k)) < hI h b (B + (4 + 2 * k))
        · rw [if_pos e2, i0, show decide (pf h b B (4 + 2 * k) ≤ pf h a A (4 + 2 * k)) = false from decide_eq_false (Int.not_le.mpr e2)]; rfl
        · rw [if_neg e2, i1, show decide (pf h b B (4 + 2 * k) ≤ pf h a A (4 + 2 * k)) = true from decide_eq_true (Int.not_lt.mp e2)]; rfl
theorem Mod_doesHold_e {a b n1 n2 A B : Nat} (ha : hK h a = (21, n1)) (hb : hK h b = (21, n2)) (hA : A + 13 ≤ n1) (hB : B + 13 ≤ n2) (h1 : n1 < 100000) (h2 : n2 < 100000) : Mod_doesHold a (A : Int) b (B : Int) h = some (bi (holdF (pf h a A) (pf h b B)), h) := by
  unfold Mod_doesHold
  rw [Mod_areOfOne_e ha hb hA hB h1 h2, bnd_some]
  exact doesHold_L ha hb hA hB h1 h2 5 0 FU _ rfl (by decide)
/-- rows of a table in a part's ranges -/
def rows1 (π : Nat → Int) (c : Int → Int → Int) (t : Int) (N : Nat) : Nat := cntR (fun r => inF π (c r) t) 0 N
theorem rowsIn_L (m : MS h) (b : MB h) {of n1 B : Nat} (hk : hK h of = (21, n1)) (hB : B + 13 ≤ n1) (hn1 : n1 < 100000) {t : Int} (ht : t = 0 ∨ t = 1) : ∀ (n r fuel : Nat) (acc : Int), (r : Int) + n = rN h t → n < fuel → 0 ≤ acc → acc ≤ r → Mod_rowsIn_L6 fuel 401 of (B : Int) t acc (r : Int) h = some (acc + (cntR (fun r => inF (pf h of B) (num h r) t) r n : Nat), h)
  | 0, r, fuel + 1, acc, hr, _, _, _ => by
    rw [Mod_rowsIn_L6, c_m m, Mod_manyOf_e m, bnd_some, if_pos (by omega), cntR_0]; simp
  | n + 1, r, fuel + 1, acc, hr, hf, h0, h1 => by
    have hb := rN_b b t
    rw [Mod_rowsIn_L6, c_m m, Mod_manyOf_e m, bnd_some, if_neg (by omega), c_m m, Mod_isInPart_e m hk hB hn1 ht (by omega) (by split <;> omega), bnd_some, ite_bi, cntR_s]
    cases e : inF (pf h of B) (num h r) t
    · rw [if_neg (by decide), if_neg (by decide), wr_id (by omega) (by omega), wr_id (by omega) (by omega), show (r : Int) + 1 = ((r + 1 : Nat) : Int) by omega, rowsIn_L m b hk hB hn1 ht n (r + 1) fuel (acc + 0) (by omega) (by omega) (by omega) (by omega)]
      congr 2; omega
    · rw [if_pos rfl, if_pos rfl, wr_id (by omega) (by omega), wr_id (by omega) (by omega), show (r : Int) + 1 = ((r + 1 : Nat) : Int) by omega, rowsIn_L m b hk hB hn1 ht n (r + 1) fuel (acc + 1) (by omega) (by omega) (by omega) (by omega)]
      congr 2; omega
theorem Mod_rowsIn_e (m : MS h) (b : MB h) {of n1 B : Nat} (hk : hK h of = (21, n1)) (hB : B + 13 ≤ n1) (hn1 : n1 < 100000) {t : Int} (ht : t = 0 ∨ t = 1) : Mod_rowsIn 401 of (B : Int) t h = some (((rows1 (pf h of B) (num h) t (rN h t).toNat : Nat) : Int), h) := by
  have hb := rN_b b t
  unfold Mod_rowsIn rows1
  have := rowsIn_L m b hk hB hn1 ht (rN h t).toNat 0 FU 0 (by omega) (by have := FU_big; omega) (by omega) (by omega)
  rw [Int.zero_add] at this
  exact this
end R2
