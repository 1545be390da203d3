/-! Level 2: feed and end of both sides -/
section K20
variable {h H K g : AH} {own own' : Nat → Nat}
theorem bmod_m (z : Int) : Int.bmod z 4294967296 % 256 = z % 256 ∧ -2147483648 ≤ Int.bmod z 4294967296 ∧ Int.bmod z 4294967296 < 2147483648 := by
  unfold Int.bmod
  simp only []
  split <;> omega
theorem bmod_8 (z : Int) : Int.bmod z 256 % 256 = z % 256 ∧ -128 ≤ Int.bmod z 256 ∧ Int.bmod z 256 ≤ 127 := by
  unfold Int.bmod
  simp only []
  split <;> omega
theorem i2b_e (x : Int) : i2b x % 256 = x % 256 ∧ -128 ≤ i2b x ∧ i2b x ≤ 127 := by
  have e : i2b x = Int.bmod (Int.bmod x 4294967296) 256 := by
    unfold i2b
    rw [Int8.toInt_toInt32, Int32.toInt_toInt8, Int32.toInt_ofInt]
  have a := bmod_m x
  have b := bmod_8 (Int.bmod x 4294967296)
  rw [e]
  omega
theorem iAnd_255 (y : Int) : iAnd y 255 = y % 256 := by
  have e : (BitVec.ofInt 32 y &&& BitVec.ofInt 32 255).toNat = (BitVec.ofInt 32 y).toNat % 256 := by
    rw [BitVec.toNat_and, show (BitVec.ofInt 32 255).toNat = 255 from rfl]
    exact Nat.and_two_pow_sub_one_eq_mod _ 8
  have l := Nat.mod_lt (BitVec.ofInt 32 y).toNat (show 256 > 0 by decide)
  have t : ((BitVec.ofInt 32 y).toNat : Int) = y % 4294967296 := by
    rw [BitVec.toNat_ofInt]; have := Int.emod_nonneg y (show (4294967296 : Int) ≠ 0 by decide); omega
  unfold iAnd
  rw [← Int32.toInt_toBitVec, Int32.toBitVec_and, Int32.toBitVec_ofInt, Int32.toBitVec_ofInt, BitVec.toInt_eq_toNat_of_lt (by rw [e]; omega), e]
  omega
theorem iShr_k (v : Int) {k : Nat} (hk : k = 24 ∨ k = 16 ∨ k = 8 ∨ k = 0) : iShr v (k : Int) = Int.bmod v 4294967296 / (2 ^ k : Nat) := by
  have e : (Int32.ofInt v).toBitVec.toInt = Int.bmod v 4294967296 := by rw [Int32.toInt_toBitVec, Int32.toInt_ofInt]
  unfold iShr
  rw [← Int32.toInt_toBitVec, Int32.toBitVec_shiftRight, BitVec.toInt_sshiftRight', e, Int.shiftRight_eq_div_pow]
  rcases hk with rfl | rfl | rfl | rfl <;> rfl
theorem iUshr_k (v : Int) {k : Nat} (hk : k = 24 ∨ k = 16 ∨ k = 8 ∨ k = 0) : iUshr v (k : Int) = Int.bmod ((v % 4294967296) / (2 ^ k : Nat)) 4294967296 := by
  have e : ((Int32.ofInt v).toBitVec.toNat : Int) = v % 4294967296 := by
    rw [Int32.toBitVec_ofInt, BitVec.toNat_ofInt]; have := Int.emod_nonneg v (show (4294967296 : Int) ≠ 0 by decide); omega
  unfold iUshr
  rw [← Int32.toInt_toBitVec, UInt32.toBitVec_toInt32, UInt32.toBitVec_shiftRight, Int32.toBitVec_toUInt32, BitVec.toInt_eq_toNat_bmod, BitVec.ushiftRight_eq', BitVec.toNat_ushiftRight, Nat.shiftRight_eq_div_pow, Int.natCast_ediv, e]
  rcases hk with rfl | rfl | rfl | rfl <;> rfl
theorem byte_e (v : Int) {k : Nat} (hk : k = 24 ∨ k = 16 ∨ k = 8 ∨ k = 0) : iAnd (iUshr v (k : Int)) 255 = b8 (i2b (iShr v (k : Int))) % 256 ∧ -128 ≤ b8 (i2b (iShr v (k : Int))) ∧ b8 (i2b (iShr v (k : Int))) ≤ 127 := by
  have a := i2b_e (iShr v (k : Int))
  have b := i2b_e (i2b (iShr v (k : Int)))
  have s := iShr_k v hk
  have u := iUshr_k v hk
  have m1 := bmod_m ((v % 4294967296) / (2 ^ k : Nat))
  have m2 : Int.bmod v 4294967296 % 4294967296 = v % 4294967296 := Int.bmod_emod
  rw [iAnd_255, u, m1.1]
  unfold b8
  refine ⟨?_, b.2⟩
  rw [b.1, a.1, s]
  generalize Int.bmod v 4294967296 = z at *
  rw [← m2]
  rcases hk with rfl | rfl | rfl | rfl
  · show z % 4294967296 / 16777216 % 256 = z / 16777216 % 256
    omega
  · show z % 4294967296 / 65536 % 256 = z / 65536 % 256
    omega
  · show z % 4294967296 / 256 % 256 = z / 256 % 256
    omega
  · show z % 4294967296 / 1 % 256 = z / 1 % 256
    omega
end K20
