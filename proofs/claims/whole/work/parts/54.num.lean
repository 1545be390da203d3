/-! Level 2: numbers -/
theorem iDivE {a b : Int} (h0 : 0 ≤ a) (h1 : a < 2147483648) (h2 : 0 < b) (h3 : b < 2147483648) : Int32.ofInt a / Int32.ofInt b = Int32.ofInt (a / b) := by
  have x := Int.ediv_nonneg h0 (Int.le_of_lt h2)
  have y := Int.ediv_le_self b h0
  apply Int32.toInt_inj.mp
  rw [Int32.toInt_div, inR_ofInt ⟨by omega, h1⟩, inR_ofInt ⟨by omega, h3⟩, inR_ofInt ⟨by omega, by omega⟩, Int.tdiv_eq_ediv_of_nonneg h0]
  exact Int.bmod_eq_of_le (by omega) (by omega)
theorem iDiv_e {a b : Int} (h0 : 0 ≤ a) (h1 : a < 2147483648) (h2 : 0 < b) (h3 : b < 2147483648) : iDiv a b = a / b := by
  have x := Int.ediv_nonneg h0 (Int.le_of_lt h2)
  have y := Int.ediv_le_self b h0
  unfold iDiv
  rw [iDivE h0 h1 h2 h3, inR_ofInt ⟨by omega, by omega⟩]
theorem iRem_e {a b : Int} (h0 : 0 ≤ a) (h1 : a < 2147483648) (h2 : 0 < b) (h3 : b < 2147483648) : iRem a b = a % b := by
  have x := Int.ediv_nonneg h0 (Int.le_of_lt h2)
  have d := Int.emod_def a b
  have e0 := Int.emod_nonneg a (by omega : b ≠ 0)
  have e1 := Int.emod_lt_of_pos a h2
  have c : a / b * b = b * (a / b) := Int.mul_comm _ _
  have z : 0 ≤ a / b * b := Int.mul_nonneg x (Int.le_of_lt h2)
  unfold iRem
  rw [iDivE h0 h1 h2 h3, i32_mul, i32_sub, inR_ofInt (inR_wr _), wr_id (z := a / b * b) (by omega) (by omega), wr_id (by omega) (by omega)]
  omega
theorem lRem_e {a b : Int} (h0 : 0 ≤ a) (h1 : a < 9223372036854775808) (h2 : 0 < b) (h3 : b < 9223372036854775808) : lRem a b = a % b := by
  have x := Int.ediv_nonneg h0 (Int.le_of_lt h2)
  have y := Int.ediv_le_self b h0
  have d := Int.emod_def a b
  have e0 := Int.emod_nonneg a (by omega : b ≠ 0)
  have e1 := Int.emod_lt_of_pos a h2
  have c : a / b * b = b * (a / b) := Int.mul_comm _ _
  have z : 0 ≤ a / b * b := Int.mul_nonneg x (Int.le_of_lt h2)
  unfold lRem
  rw [Int64.toInt_sub, Int64.toInt_mul, Int64.toInt_div, Int64.toInt_ofInt_of_le (by omega) (by omega), Int64.toInt_ofInt_of_le (by omega) (by omega), Int.tdiv_eq_ediv_of_nonneg h0, Int.bmod_eq_of_le (n := a / b) (by omega) (by omega), Int.bmod_eq_of_le (n := a / b * b) (by omega) (by omega), Int.bmod_eq_of_le (by omega) (by omega)]
  omega
theorem lAnd_e {a : Int} (h0 : 0 ≤ a) (h1 : a < 9223372036854775808) : lAnd a 2147483647 = a % 2147483648 := by
  obtain ⟨n, rfl⟩ : ∃ n : Nat, a = (n : Int) := ⟨a.toNat, by omega⟩
  have hn : n < 9223372036854775808 := by omega
  have e : (BitVec.ofInt 64 (n : Int) &&& BitVec.ofInt 64 2147483647).toNat = n % 2147483648 := by
    rw [BitVec.toNat_and, BitVec.ofInt_natCast, show BitVec.ofInt 64 2147483647 = BitVec.ofNat 64 2147483647 from rfl, BitVec.toNat_ofNat, BitVec.toNat_ofNat, Nat.mod_eq_of_lt (show n < 2 ^ 64 by omega), Nat.mod_eq_of_lt (show 2147483647 < 2 ^ 64 by decide)]
    exact Nat.and_two_pow_sub_one_eq_mod n 31
  have l := Nat.mod_lt n (show 2147483648 > 0 by decide)
  unfold lAnd
  rw [← Int64.toInt_toBitVec, Int64.toBitVec_and, Int64.toBitVec_ofInt, Int64.toBitVec_ofInt, BitVec.toInt_eq_toNat_of_lt (by rw [e]; omega), e]
  omega
theorem iAnd_n {a b : Nat} (ha : a < 2147483648) (hb : b < 2147483648) : iAnd (a : Int) (b : Int) = ((a &&& b : Nat) : Int) := by
  have e : (BitVec.ofInt 32 (a : Int) &&& BitVec.ofInt 32 (b : Int)).toNat = a &&& b := by
    rw [BitVec.toNat_and, BitVec.ofInt_natCast, BitVec.ofInt_natCast, BitVec.toNat_ofNat, BitVec.toNat_ofNat, Nat.mod_eq_of_lt (show a < 2 ^ 32 by omega), Nat.mod_eq_of_lt (show b < 2 ^ 32 by omega)]
  have l := Nat.and_le_left (n := a) (m := b)
  unfold iAnd
  rw [← Int32.toInt_toBitVec, Int32.toBitVec_and, Int32.toBitVec_ofInt, Int32.toBitVec_ofInt, BitVec.toInt_eq_toNat_of_lt (by rw [e]; omega), e]
theorem iOr_n {a b : Nat} (ha : a < 2147483648) (hb : b < 2147483648) : iOr (a : Int) (b : Int) = ((a ||| b : Nat) : Int) := by
  have e : (BitVec.ofInt 32 (a : Int) ||| BitVec.ofInt 32 (b : Int)).toNat = a ||| b := by
    rw [BitVec.toNat_or, BitVec.ofInt_natCast, BitVec.ofInt_natCast, BitVec.toNat_ofNat, BitVec.toNat_ofNat, Nat.mod_eq_of_lt (show a < 2 ^ 32 by omega), Nat.mod_eq_of_lt (show b < 2 ^ 32 by omega)]
  have l : a ||| b < 2 ^ 31 := Nat.or_lt_two_pow (by omega) (by omega)
  unfold iOr
  rw [← Int32.toInt_toBitVec, Int32.toBitVec_or, Int32.toBitVec_ofInt, Int32.toBitVec_ofInt, BitVec.toInt_eq_toNat_of_lt (by rw [e]; omega), e]
theorem iShl_8 : ∀ q : Nat, q < 8 → iShl 1 (q : Int) = ((2 ^ q : Nat) : Int) := by decide +kernel
def mkN (c : Nat → Bool) : Nat → Nat
  | 0 => 0
  | q + 1 => mkN c q ||| (if c q then 2 ^ q else 0)
theorem mkN_lt (c : Nat → Bool) : ∀ n : Nat, mkN c n < 2 ^ n
  | 0 => by simp [mkN]
  | n + 1 => by
    have ih := mkN_lt c n
    have p : 2 ^ n < 2 ^ (n + 1) := Nat.pow_lt_pow_right (by decide) (by omega)
    rw [mkN]
    refine Nat.or_lt_two_pow (by omega) ?_
    split
    · exact p
    · exact Nat.two_pow_pos _
theorem mkB_n (c : Nat → Bool) : ∀ n : Nat, n ≤ 8 → mkB c n = (mkN c n : Int)
  | 0, _ => rfl
  | n + 1, hn => by
    have ih := mkB_n c n (by omega)
    have l := mkN_lt c n
    have p : 2 ^ n < 2 ^ 8 := Nat.pow_lt_pow_right (by decide) (by omega)
    rw [mkB, mkN, ih]
    cases c n
    · rw [if_neg (by decide), if_neg (by decide), show (0 : Int) = ((0 : Nat) : Int) from rfl, iOr_n (by omega) (by omega)]
    · rw [if_pos rfl, if_pos rfl, iShl_8 n (by omega), iOr_n (by omega) (by omega)]
theorem mkN_t (c : Nat → Bool) : ∀ (n i : Nat), (mkN c n).testBit i = (decide (i < n) && c i)
  | 0, i => by simp [mkN]
  | n + 1, i => by
    rw [mkN, Nat.testBit_or, mkN_t c n i]
    by_cases e : i = n
    · subst e
      cases h : c i
      · simp
      · simp [Nat.testBit_two_pow_self]
    · have e2 : decide (i < n + 1) = decide (i < n) := dec_congr (by omega)
      rw [e2]
      cases c n
      · simp
      · rw [if_pos rfl, Nat.testBit_two_pow_of_ne (Ne.symm e)]; simp
theorem mkB_and {c d : Nat → Bool} {n : Nat} (hn : n ≤ 8) : iAnd (mkB c n) (mkB d n) = mkB (fun q => c q && d q) n := by
  have p : 2 ^ n ≤ 2 ^ 8 := Nat.pow_le_pow_right (by decide) hn
  have l1 := mkN_lt c n
  have l2 := mkN_lt d n
  rw [mkB_n _ n hn, mkB_n _ n hn, mkB_n _ n hn, iAnd_n (by omega) (by omega)]
  congr 1
  apply Nat.eq_of_testBit_eq
  intro i
  rw [Nat.testBit_and, mkN_t, mkN_t, mkN_t]
  cases decide (i < n) <;> cases c i <;> cases d i <;> rfl
theorem mkB_0 {c : Nat → Bool} {n : Nat} (hn : n ≤ 8) : mkB c n = 0 ↔ anyB c n = false := by
  have p : 2 ^ n ≤ 2 ^ 8 := Nat.pow_le_pow_right (by decide) hn
  have a : ∀ n, anyB c n = false ↔ ∀ i, i < n → c i = false := by
    intro n
    induction n with
    | zero => simp [anyB]
    | succ n ih =>
      rw [anyB, Bool.or_eq_false_iff, ih]
      constructor
      · intro ⟨h1, h2⟩ i hi
        by_cases e : i = n
        · rw [e]; exact h2
        · exact h1 i (by omega)
      · intro h1
        exact ⟨fun i hi => h1 i (by omega), h1 n (by omega)⟩
  rw [mkB_n _ n hn, a n]
  constructor
  · intro e i hi
    have := mkN_t c n i
    rw [show mkN c n = 0 by omega, Nat.zero_testBit, decide_eq_true hi, Bool.true_and] at this
    exact this.symm
  · intro e
    have : mkN c n = 0 := by
      apply Nat.eq_of_testBit_eq
      intro i
      rw [mkN_t, Nat.zero_testBit]
      by_cases hi : i < n
      · rw [e i hi]; simp
      · simp [hi]
    omega
theorem stk_01 : ∀ s : Nat, s < 256 → ∀ q : Nat, q < 8 → iAnd (iShr (s : Int) (q : Int)) 1 = 0 ∨ iAnd (iShr (s : Int) (q : Int)) 1 = 1 := by decide +kernel
theorem stk_x : ∀ s : Nat, s < 256 → ∀ q : Nat, q < 8 → 0 ≤ iXor (s : Int) (iShl 1 (q : Int)) ∧ iXor (s : Int) (iShl 1 (q : Int)) < 256 := by decide +kernel
/-- a draw -/
def dr (x : Int) : Int := (x * 1103515245 + 12345) % 2147483648
theorem dr_b (x : Int) : 0 ≤ dr x ∧ dr x < 2147483648 := by
  unfold dr
  exact ⟨Int.emod_nonneg _ (by decide), Int.emod_lt_of_pos _ (by decide)⟩
theorem wr64_id {z : Int} (h1 : -9223372036854775808 ≤ z) (h2 : z < 9223372036854775808) : wr64 z = z := by
  unfold wr64
  exact Int.bmod_eq_of_le (by omega) (by omega)
theorem dr_r {x : Int} (h0 : 0 ≤ x) (h1 : x < 2147483648) : wr (lRem (wr64 ((wr64 (x * 1103515245)) + 12345)) 2147483648) = dr x := by
  have b := dr_b x
  unfold dr at *
  rw [wr64_id (z := x * 1103515245) (by omega) (by omega), wr64_id (by omega) (by omega), lRem_e (by omega) (by omega) (by decide) (by decide), wr_id (by omega) (by omega)]
theorem dr_c {x : Int} (h0 : 0 ≤ x) (h1 : x < 2147483648) : wr (lAnd (wr64 ((wr64 (x * 1103515245)) + 12345)) 2147483647) = dr x := by
  have b := dr_b x
  unfold dr at *
  rw [wr64_id (z := x * 1103515245) (by omega) (by omega), wr64_id (by omega) (by omega), lAnd_e (by omega) (by omega), wr_id (by omega) (by omega)]
