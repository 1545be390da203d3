/-! Level 2: operations at known cells -/
section L2
variable {β : Type} {h : AH} {t a n k v : Nat} {i z : Int}
theorem gI_k {f : Int → Option β} (hk : hK h a = (t, n)) : gI h t a k f = f (hI h a k) := by unfold gI; rw [hk, if_pos rfl]
theorem gR_k {f : Nat → Option β} (hk : hK h a = (t, n)) : gR h t a k f = f (hR h a k) := by unfold gR; rw [hk, if_pos rfl]
theorem pI_k {f : AH → Option β} (hk : hK h a = (t, n)) : pI h t a k z f = f (sI h a k z) := by unfold pI; rw [hk, if_pos rfl]
theorem pZ_k {f : AH → Option β} (hk : hK h a = (t, n)) (hz : z = 0 ∨ z = 1) : pZ h t a k z f = f (sI h a k z) := by unfold pZ; rw [hk, if_pos ⟨rfl, hz⟩]
theorem pR_k {f : AH → Option β} (hk : hK h a = (t, n)) : pR h t a k v f = f (sR h a k v) := by unfold pR; rw [hk, if_pos rfl]
theorem aI_k {f : Int → Option β} (hk : hK h a = (t, n)) (h0 : 0 ≤ i) (h1 : i < (n : Int)) : aI h t a i f = f (hI h a i.toNat) := by unfold aI; rw [hk, if_pos ⟨rfl, h0, h1⟩]
theorem aR_k {f : Nat → Option β} (hk : hK h a = (t, n)) (h0 : 0 ≤ i) (h1 : i < (n : Int)) : aR h t a i f = f (hR h a i.toNat) := by unfold aR; rw [hk, if_pos ⟨rfl, h0, h1⟩]
theorem wI_k {f : AH → Option β} (hk : hK h a = (t, n)) (h0 : 0 ≤ i) (h1 : i < (n : Int)) : wI h t a i z f = f (sI h a i.toNat z) := by unfold wI; rw [hk, if_pos ⟨rfl, h0, h1⟩]
theorem wZ_k {f : AH → Option β} (hk : hK h a = (t, n)) (h0 : 0 ≤ i) (h1 : i < (n : Int)) (hz : z = 0 ∨ z = 1) : wZ h t a i z f = f (sI h a i.toNat z) := by unfold wZ; rw [hk, if_pos ⟨rfl, h0, h1, hz⟩]
theorem wR_k {f : AH → Option β} {tv n2 : Nat} (hk : hK h a = (t, n)) (h0 : 0 ≤ i) (h1 : i < (n : Int)) (hv : hK h v = (tv, n2)) : wR h t a i tv v f = f (sR h a i.toNat v) := by unfold wR; rw [hk, hv, if_pos ⟨rfl, h0, h1, rfl⟩]
theorem aN_k {f : Int → Option β} (hk : hK h a = (t, n)) : aN h t a f = f (n : Int) := by unfold aN; rw [hk, if_pos rfl]
theorem rc_k {o : Option β} (hk : hK h a = (t, n)) : rc h t a o = o := by unfold rc; rw [hk, if_pos rfl]
theorem bnd_some {ρ ρ' : Type} (r : ρ') (h1 : AH) (k : ρ' → AH → Option (ρ × AH)) : bnd (some (r, h1)) k = k r h1 := rfl
theorem cp_k {f : AH → Option β} {src dst n1 n2 : Nat} {sp dp m : Int} (hk1 : hK h src = (21, n1)) (hk2 : hK h dst = (21, n2)) (h1 : 0 ≤ sp) (h2 : 0 ≤ dp) (h3 : 0 ≤ m) (h4 : sp + m ≤ (n1 : Int)) (h5 : dp + m ≤ (n2 : Int)) : cp h src sp dst dp m f = f (cI2 h src sp.toNat dst dp.toNat m.toNat) := by unfold cp; rw [hk1, hk2, if_pos ⟨rfl, rfl, h1, h2, h3, h4, h5⟩]
theorem rz_k (hz : z = 0 ∨ z = 1) : rz z h = some (z, h) := by unfold rz; rw [if_pos hz]
theorem oi_k {o : Option β} (ha : 16 ≤ a) : oi a o = o := by unfold oi; rw [if_pos ha]
theorem nA_k {f : Nat → AH → Option β} (h0 : 0 ≤ i) (h1 : i ≤ 100000) : nA h t i f = f (16 + hN h) (nw h t i.toNat i.toNat) := by unfold nA; rw [if_pos ⟨h0, h1⟩]
theorem lCmp_lt (x y : Int) : lCmp x y < 0 ↔ x < y := by
  unfold lCmp; split
  · constructor <;> intro h <;> omega
  · split
    · constructor <;> intro h <;> omega
    · constructor <;> intro h <;> omega
theorem lCmp_gt (x y : Int) : 0 < lCmp x y ↔ y < x := by
  unfold lCmp; split
  · constructor <;> intro h <;> omega
  · split
    · constructor <;> intro h <;> omega
    · constructor <;> intro h <;> omega
theorem up2_k {α : Type} {f : Nat → Nat → α} {a k : Nat} {v : α} : up2 f a k v a k = v := by simp [up2]
theorem up2_j {α : Type} {f : Nat → Nat → α} {a k j : Nat} {v : α} (hj : j ≠ k) : up2 f a k v a j = f a j := by simp [up2, hj]
theorem FU_big : 100000 < FU := by decide
end L2
/-! the reference: cells 401 to 425 -/
def mArr : List (Nat × Nat × Nat × Nat) := [(1, 402, 21, 9), (2, 403, 21, 36), (3, 404, 21, 16), (4, 405, 21, 36), (5, 406, 21, 16), (9, 407, 21, 96), (11, 408, 21, 8), (12, 409, 21, 8), (13, 410, 21, 8), (14, 411, 21, 40), (15, 412, 21, 40), (16, 413, 21, 8), (17, 414, 21, 40), (21, 415, 22, 400), (26, 416, 21, 13), (27, 417, 21, 24), (28, 418, 21, 24), (29, 419, 21, 4800), (30, 420, 21, 300), (33, 421, 21, 112), (35, 422, 21, 6), (42, 423, 21, 3276), (46, 424, 21, 13112), (47, 425, 23, 4)]
def MS (h : AH) : Prop := hK h 401 = (13, 0) ∧ ∀ q ∈ mArr, hR h 401 q.1 = q.2.1 ∧ hK h q.2.1 = q.2.2
theorem MS.K {h : AH} (m : MS h) (j : Nat) {f a t n : Nat} (hj : mArr[j]? = some (f, a, t, n)) : hR h 401 f = a ∧ hK h a = (t, n) := m.2 _ (List.mem_of_getElem? hj)
section MM
variable {β : Type} {h : AH} {k : Nat} {i z : Int}
theorem c_m {o : Option β} (m : MS h) : rc h 13 401 o = o := rc_k m.1
theorem g_m {f : Int → Option β} (m : MS h) : gI h 13 401 k f = f (hI h 401 k) := gI_k m.1
theorem p_m {f : AH → Option β} (m : MS h) : pI h 13 401 k z f = f (sI h 401 k z) := pI_k m.1
theorem z_m {f : AH → Option β} (m : MS h) (hz : z = 0 ∨ z = 1) : pZ h 13 401 k z f = f (sI h 401 k z) := pZ_k m.1 hz
theorem r_1 {f : Nat → Option β} (m : MS h) : gR h 13 401 1 f = f 402 := by rw [gR_k m.1, (m.K 0 rfl).1]
theorem a_402 {f : Int → Option β} (m : MS h) (h0 : 0 ≤ i) (h1 : i < 9) : aI h 21 402 i f = f (hI h 402 i.toNat) := aI_k (m.K 0 rfl).2 h0 h1
theorem w_402 {f : AH → Option β} (m : MS h) (h0 : 0 ≤ i) (h1 : i < 9) : wI h 21 402 i z f = f (sI h 402 i.toNat z) := wI_k (m.K 0 rfl).2 h0 h1
theorem n_402 {f : Int → Option β} (m : MS h) : aN h 21 402 f = f 9 := aN_k (m.K 0 rfl).2
theorem r_2 {f : Nat → Option β} (m : MS h) : gR h 13 401 2 f = f 403 := by rw [gR_k m.1, (m.K 1 rfl).1]
theorem a_403 {f : Int → Option β} (m : MS h) (h0 : 0 ≤ i) (h1 : i < 36) : aI h 21 403 i f = f (hI h 403 i.toNat) := aI_k (m.K 1 rfl).2 h0 h1
theorem w_403 {f : AH → Option β} (m : MS h) (h0 : 0 ≤ i) (h1 : i < 36) : wI h 21 403 i z f = f (sI h 403 i.toNat z) := wI_k (m.K 1 rfl).2 h0 h1
theorem n_403 {f : Int → Option β} (m : MS h) : aN h 21 403 f = f 36 := aN_k (m.K 1 rfl).2
theorem r_3 {f : Nat → Option β} (m : MS h) : gR h 13 401 3 f = f 404 := by rw [gR_k m.1, (m.K 2 rfl).1]
theorem a_404 {f : Int → Option β} (m : MS h) (h0 : 0 ≤ i) (h1 : i < 16) : aI h 21 404 i f = f (hI h 404 i.toNat) := aI_k (m.K 2 rfl).2 h0 h1
theorem w_404 {f : AH → Option β} (m : MS h) (h0 : 0 ≤ i) (h1 : i < 16) : wI h 21 404 i z f = f (sI h 404 i.toNat z) := wI_k (m.K 2 rfl).2 h0 h1
theorem n_404 {f : Int → Option β} (m : MS h) : aN h 21 404 f = f 16 := aN_k (m.K 2 rfl).2
theorem r_4 {f : Nat → Option β} (m : MS h) : gR h 13 401 4 f = f 405 := by rw [gR_k m.1, (m.K 3 rfl).1]
theorem a_405 {f : Int → Option β} (m : MS h) (h0 : 0 ≤ i) (h1 : i < 36) : aI h 21 405 i f = f (hI h 405 i.toNat) := aI_k (m.K 3 rfl).2 h0 h1
theorem w_405 {f : AH → Option β} (m : MS h) (h0 : 0 ≤ i) (h1 : i < 36) : wI h 21 405 i z f = f (sI h 405 i.toNat z) := wI_k (m.K 3 rfl).2 h0 h1
theorem n_405 {f : Int → Option β} (m : MS h) : aN h 21 405 f = f 36 := aN_k (m.K 3 rfl).2
theorem r_5 {f : Nat → Option β} (m : MS h) : gR h 13 401 5 f = f 406 := by rw [gR_k m.1, (m.K 4 rfl).1]
theorem a_406 {f : Int → Option β} (m : MS h) (h0 : 0 ≤ i) (h1 : i < 16) : aI h 21 406 i f = f (hI h 406 i.toNat) := aI_k (m.K 4 rfl).2 h0 h1
theorem w_406 {f : AH → Option β} (m : MS h) (h0 : 0 ≤ i) (h1 : i < 16) : wI h 21 406 i z f = f (sI h 406 i.toNat z) := wI_k (m.K 4 rfl).2 h0 h1
theorem n_406 {f : Int → Option β} (m : MS h) : aN h 21 406 f = f 16 := aN_k (m.K 4 rfl).2
theorem r_9 {f : Nat → Option β} (m : MS h) : gR h 13 401 9 f = f 407 := by rw [gR_k m.1, (m.K 5 rfl).1]
theorem a_407 {f : Int → Option β} (m : MS h) (h0 : 0 ≤ i) (h1 : i < 96) : aI h 21 407 i f = f (hI h 407 i.toNat) := aI_k (m.K 5 rfl).2 h0 h1
theorem w_407 {f : AH → Option β} (m : MS h) (h0 : 0 ≤ i) (h1 : i < 96) : wI h 21 407 i z f = f (sI h 407 i.toNat z) := wI_k (m.K 5 rfl).2 h0 h1
theorem n_407 {f : Int → Option β} (m : MS h) : aN h 21 407 f = f 96 := aN_k (m.K 5 rfl).2
theorem r_11 {f : Nat → Option β} (m : MS h) : gR h 13 401 11 f = f 408 := by rw [gR_k m.1, (m.K 6 rfl).1]
theorem a_408 {f : Int → Option β} (m : MS h) (h0 : 0 ≤ i) (h1 : i < 8) : aI h 21 408 i f = f (hI h 408 i.toNat) := aI_k (m.K 6 rfl).2 h0 h1
theorem w_408 {f : AH → Option β} (m : MS h) (h0 : 0 ≤ i) (h1 : i < 8) : wI h 21 408 i z f = f (sI h 408 i.toNat z) := wI_k (m.K 6 rfl).2 h0 h1
theorem n_408 {f : Int → Option β} (m : MS h) : aN h 21 408 f = f 8 := aN_k (m.K 6 rfl).2
theorem r_12 {f : Nat → Option β} (m : MS h) : gR h 13 401 12 f = f 409 := by rw [gR_k m.1, (m.K 7 rfl).1]
theorem a_409 {f : Int → Option β} (m : MS h) (h0 : 0 ≤ i) (h1 : i < 8) : aI h 21 409 i f = f (hI h 409 i.toNat) := aI_k (m.K 7 rfl).2 h0 h1
theorem w_409 {f : AH → Option β} (m : MS h) (h0 : 0 ≤ i) (h1 : i < 8) : wI h 21 409 i z f = f (sI h 409 i.toNat z) := wI_k (m.K 7 rfl).2 h0 h1
theorem n_409 {f : Int → Option β} (m : MS h) : aN h 21 409 f = f 8 := aN_k (m.K 7 rfl).2
theorem r_13 {f : Nat → Option β} (m : MS h) : gR h 13 401 13 f = f 410 := by rw [gR_k m.1, (m.K 8 rfl).1]
theorem a_410 {f : Int → Option β} (m : MS h) (h0 : 0 ≤ i) (h1 : i < 8) : aI h 21 410 i f = f (hI h 410 i.toNat) := aI_k (m.K 8 rfl).2 h0 h1
theorem w_410 {f : AH → Option β} (m : MS h) (h0 : 0 ≤ i) (h1 : i < 8) : wI h 21 410 i z f = f (sI h 410 i.toNat z) := wI_k (m.K 8 rfl).2 h0 h1
theorem n_410 {f : Int → Option β} (m : MS h) : aN h 21 410 f = f 8 := aN_k (m.K 8 rfl).2
theorem r_14 {f : Nat → Option β} (m : MS h) : gR h 13 401 14 f = f 411 := by rw [gR_k m.1, (m.K 9 rfl).1]
theorem a_411 {f : Int → Option β} (m : MS h) (h0 : 0 ≤ i) (h1 : i < 40) : aI h 21 411 i f = f (hI h 411 i.toNat) := aI_k (m.K 9 rfl).2 h0 h1
theorem w_411 {f : AH → Option β} (m : MS h) (h0 : 0 ≤ i) (h1 : i < 40) : wI h 21 411 i z f = f (sI h 411 i.toNat z) := wI_k (m.K 9 rfl).2 h0 h1
theorem n_411 {f : Int → Option β} (m : MS h) : aN h 21 411 f = f 40 := aN_k (m.K 9 rfl).2
theorem r_15 {f : Nat → Option β} (m : MS h) : gR h 13 401 15 f = f 412 := by rw [gR_k m.1, (m.K 10 rfl).1]
theorem a_412 {f : Int → Option β} (m : MS h) (h0 : 0 ≤ i) (h1 : i < 40) : aI h 21 412 i f = f (hI h 412 i.toNat) := aI_k (m.K 10 rfl).2 h0 h1
theorem w_412 {f : AH → Option β} (m : MS h) (h0 : 0 ≤ i) (h1 : i < 40) : wI h 21 412 i z f = f (sI h 412 i.toNat z) := wI_k (m.K 10 rfl).2 h0 h1
theorem n_412 {f : Int → Option β} (m : MS h) : aN h 21 412 f = f 40 := aN_k (m.K 10 rfl).2
theorem r_16 {f : Nat → Option β} (m : MS h) : gR h 13 401 16 f = f 413 := by rw [gR_k m.1, (m.K 11 rfl).1]
theorem a_413 {f : Int → Option β} (m : MS h) (h0 : 0 ≤ i) (h1 : i < 8) : aI h 21 413 i f = f (hI h 413 i.toNat) := aI_k (m.K 11 rfl).2 h0 h1
theorem w_413 {f : AH → Option β} (m : MS h) (h0 : 0 ≤ i) (h1 : i < 8) : wI h 21 413 i z f = f (sI h 413 i.toNat z) := wI_k (m.K 11 rfl).2 h0 h1
theorem n_413 {f : Int → Option β} (m : MS h) : aN h 21 413 f = f 8 := aN_k (m.K 11 rfl).2
theorem r_17 {f : Nat → Option β} (m : MS h) : gR h 13 401 17 f = f 414 := by rw [gR_k m.1, (m.K 12 rfl).1]
theorem a_414 {f : Int → Option β} (m : MS h) (h0 : 0 ≤ i) (h1 : i < 40) : aI h 21 414 i f = f (hI h 414 i.toNat) := aI_k (m.K 12 rfl).2 h0 h1
theorem w_414 {f : AH → Option β} (m : MS h) (h0 : 0 ≤ i) (h1 : i < 40) : wI h 21 414 i z f = f (sI h 414 i.toNat z) := wI_k (m.K 12 rfl).2 h0 h1
theorem n_414 {f : Int → Option β} (m : MS h) : aN h 21 414 f = f 40 := aN_k (m.K 12 rfl).2
theorem r_21 {f : Nat → Option β} (m : MS h) : gR h 13 401 21 f = f 415 := by rw [gR_k m.1, (m.K 13 rfl).1]
theorem a_415 {f : Int → Option β} (m : MS h) (h0 : 0 ≤ i) (h1 : i < 400) : aI h 22 415 i f = f (hI h 415 i.toNat) := aI_k (m.K 13 rfl).2 h0 h1
theorem w_415 {f : AH → Option β} (m : MS h) (h0 : 0 ≤ i) (h1 : i < 400) : wI h 22 415 i z f = f (sI h 415 i.toNat z) := wI_k (m.K 13 rfl).2 h0 h1
theorem n_415 {f : Int → Option β} (m : MS h) : aN h 22 415 f = f 400 := aN_k (m.K 13 rfl).2
theorem r_26 {f : Nat → Option β} (m : MS h) : gR h 13 401 26 f = f 416 := by rw [gR_k m.1, (m.K 14 rfl).1]
theorem a_416 {f : Int → Option β} (m : MS h) (h0 : 0 ≤ i) (h1 : i < 13) : aI h 21 416 i f = f (hI h 416 i.toNat) := aI_k (m.K 14 rfl).2 h0 h1
theorem w_416 {f : AH → Option β} (m : MS h) (h0 : 0 ≤ i) (h1 : i < 13) : wI h 21 416 i z f = f (sI h 416 i.toNat z) := wI_k (m.K 14 rfl).2 h0 h1
theorem n_416 {f : Int → Option β} (m : MS h) : aN h 21 416 f = f 13 := aN_k (m.K 14 rfl).2
theorem r_27 {f : Nat → Option β} (m : MS h) : gR h 13 401 27 f = f 417 := by rw [gR_k m.1, (m.K 15 rfl).1]
theorem a_417 {f : Int → Option β} (m : MS h) (h0 : 0 ≤ i) (h1 : i < 24) : aI h 21 417 i f = f (hI h 417 i.toNat) := aI_k (m.K 15 rfl).2 h0 h1
theorem w_417 {f : AH → Option β} (m : MS h) (h0 : 0 ≤ i) (h1 : i < 24) : wI h 21 417 i z f = f (sI h 417 i.toNat z) := wI_k (m.K 15 rfl).2 h0 h1
theorem n_417 {f : Int → Option β} (m : MS h) : aN h 21 417 f = f 24 := aN_k (m.K 15 rfl).2
theorem r_28 {f : Nat → Option β} (m : MS h) : gR h 13 401 28 f = f 418 := by rw [gR_k m.1, (m.K 16 rfl).1]
theorem a_418 {f : Int → Option β} (m : MS h) (h0 : 0 ≤ i) (h1 : i < 24) : aI h 21 418 i f = f (hI h 418 i.toNat) := aI_k (m.K 16 rfl).2 h0 h1
theorem w_418 {f : AH → Option β} (m : MS h) (h0 : 0 ≤ i) (h1 : i < 24) : wI h 21 418 i z f = f (sI h 418 i.toNat z) := wI_k (m.K 16 rfl).2 h0 h1
theorem n_418 {f : Int → Option β} (m : MS h) : aN h 21 418 f = f 24 := aN_k (m.K 16 rfl).2
theorem r_29 {f : Nat → Option β} (m : MS h) : gR h 13 401 29 f = f 419 := by rw [gR_k m.1, (m.K 17 rfl).1]
theorem a_419 {f : Int → Option β} (m : MS h) (h0 : 0 ≤ i) (h1 : i < 4800) : aI h 21 419 i f = f (hI h 419 i.toNat) := aI_k (m.K 17 rfl).2 h0 h1
theorem w_419 {f : AH → Option β} (m : MS h) (h0 : 0 ≤ i) (h1 : i < 4800) : wI h 21 419 i z f = f (sI h 419 i.toNat z) := wI_k (m.K 17 rfl).2 h0 h1
theorem n_419 {f : Int → Option β} (m : MS h) : aN h 21 419 f = f 4800 := aN_k (m.K 17 rfl).2
theorem r_30 {f : Nat → Option β} (m : MS h) : gR h 13 401 30 f = f 420 := by rw [gR_k m.1, (m.K 18 rfl).1]
theorem a_420 {f : Int → Option β} (m : MS h) (h0 : 0 ≤ i) (h1 : i < 300) : aI h 21 420 i f = f (hI h 420 i.toNat) := aI_k (m.K 18 rfl).2 h0 h1
theorem w_420 {f : AH → Option β} (m : MS h) (h0 : 0 ≤ i) (h1 : i < 300) : wI h 21 420 i z f = f (sI h 420 i.toNat z) := wI_k (m.K 18 rfl).2 h0 h1
theorem n_420 {f : Int → Option β} (m : MS h) : aN h 21 420 f = f 300 := aN_k (m.K 18 rfl).2
theorem r_33 {f : Nat → Option β} (m : MS h) : gR h 13 401 33 f = f 421 := by rw [gR_k m.1, (m.K 19 rfl).1]
theorem a_421 {f : Int → Option β} (m : MS h) (h0 : 0 ≤ i) (h1 : i < 112) : aI h 21 421 i f = f (hI h 421 i.toNat) := aI_k (m.K 19 rfl).2 h0 h1
theorem w_421 {f : AH → Option β} (m : MS h) (h0 : 0 ≤ i) (h1 : i < 112) : wI h 21 421 i z f = f (sI h 421 i.toNat z) := wI_k (m.K 19 rfl).2 h0 h1
theorem n_421 {f : Int → Option β} (m : MS h) : aN h 21 421 f = f 112 := aN_k (m.K 19 rfl).2
theorem r_35 {f : Nat → Option β} (m : MS h) : gR h 13 401 35 f = f 422 := by rw [gR_k m.1, (m.K 20 rfl).1]
theorem a_422 {f : Int → Option β} (m : MS h) (h0 : 0 ≤ i) (h1 : i < 6) : aI h 21 422 i f = f (hI h 422 i.toNat) := aI_k (m.K 20 rfl).2 h0 h1
theorem w_422 {f : AH → Option β} (m : MS h) (h0 : 0 ≤ i) (h1 : i < 6) : wI h 21 422 i z f = f (sI h 422 i.toNat z) := wI_k (m.K 20 rfl).2 h0 h1
theorem n_422 {f : Int → Option β} (m : MS h) : aN h 21 422 f = f 6 := aN_k (m.K 20 rfl).2
theorem r_42 {f : Nat → Option β} (m : MS h) : gR h 13 401 42 f = f 423 := by rw [gR_k m.1, (m.K 21 rfl).1]
theorem a_423 {f : Int → Option β} (m : MS h) (h0 : 0 ≤ i) (h1 : i < 3276) : aI h 21 423 i f = f (hI h 423 i.toNat) := aI_k (m.K 21 rfl).2 h0 h1
theorem w_423 {f : AH → Option β} (m : MS h) (h0 : 0 ≤ i) (h1 : i < 3276) : wI h 21 423 i z f = f (sI h 423 i.toNat z) := wI_k (m.K 21 rfl).2 h0 h1
theorem n_423 {f : Int → Option β} (m : MS h) : aN h 21 423 f = f 3276 := aN_k (m.K 21 rfl).2
theorem r_46 {f : Nat → Option β} (m : MS h) : gR h 13 401 46 f = f 424 := by rw [gR_k m.1, (m.K 22 rfl).1]
theorem a_424 {f : Int → Option β} (m : MS h) (h0 : 0 ≤ i) (h1 : i < 13112) : aI h 21 424 i f = f (hI h 424 i.toNat) := aI_k (m.K 22 rfl).2 h0 h1
theorem w_424 {f : AH → Option β} (m : MS h) (h0 : 0 ≤ i) (h1 : i < 13112) : wI h 21 424 i z f = f (sI h 424 i.toNat z) := wI_k (m.K 22 rfl).2 h0 h1
theorem n_424 {f : Int → Option β} (m : MS h) : aN h 21 424 f = f 13112 := aN_k (m.K 22 rfl).2
theorem r_47 {f : Nat → Option β} (m : MS h) : gR h 13 401 47 f = f 425 := by rw [gR_k m.1, (m.K 23 rfl).1]
theorem a_425 {f : Int → Option β} (m : MS h) (h0 : 0 ≤ i) (h1 : i < 4) : aI h 23 425 i f = f (hI h 425 i.toNat) := aI_k (m.K 23 rfl).2 h0 h1
theorem w_425 {f : AH → Option β} (m : MS h) (h0 : 0 ≤ i) (h1 : i < 4) (hz : z = 0 ∨ z = 1) : wZ h 23 425 i z f = f (sI h 425 i.toNat z) := wZ_k (m.K 23 rfl).2 h0 h1 hz
theorem n_425 {f : Int → Option β} (m : MS h) : aN h 23 425 f = f 4 := aN_k (m.K 23 rfl).2
end MM
theorem MS_sI {h : AH} {a k : Nat} {v : Int} (m : MS h) : MS (sI h a k v) := m
