/-! Level 2: the parts of queries, laid -/
section R4
variable {h : AH}
/-- the part of a kind of a query -/
def qp (h : AH) (q : Nat) (kind : Int) (k : Nat) : Int :=
  if k = 0 then kind else if k = 1 then (if kind = 2 then hI h 409 q else -1) else if k = 2 then (if kind = 2 then hI h 410 q else -1)
  else if k % 2 = 1 then (if isOfB kind ((k - 3) / 2 : Nat) then hI h 411 (5 * q + (k - 3) / 2) else 0) else (if isOfB kind ((k - 4) / 2 : Nat) then hI h 412 (5 * q + (k - 4) / 2) else 9)
def lp (h : AH) (q : Nat) (kind : Int) : Nat → Int := fun k => if k < 13 then qp h q kind k else hI h 416 k
def u1 (g : Nat → Int) (k : Nat) (v : Int) : Nat → Int := fun j => if j = k then v else g j
theorem sI_u (h : AH) (a k : Nat) (g : Nat → Int) (v : Int) : sI (sF h a g) a k v = sF h a (u1 g k v) := by
  rw [sI_sF, sF_sF, hI_sFs]; rfl
theorem laysPart_s (m : MS h) {q : Nat} (hq : q < 8) {kind : Int} {c n : Nat} (hc : c < 5) (g : Nat → Int) : Mod_laysPart_L51 (n + 1) 401 (q : Int) kind (c : Int) (sF h 416 g) = Mod_laysPart_L51 n 401 (q : Int) kind ((c + 1 : Nat) : Int) (sF h 416 (u1 (u1 g (3 + 2 * c) (if isOfB kind c then hI h 411 (5 * q + c) else 0)) (4 + 2 * c) (if isOfB kind c then hI h 412 (5 * q + c) else 9))) := by
  have m' : MS (sF h 416 g) := m
  rw [Mod_laysPart_L51, if_neg (by omega), Mod_isOf_e, bnd_some, r_26 m']
  have m2 : ∀ v, MS (sF h 416 (u1 g (3 + 2 * c) v)) := fun v => m
  have step : ∀ (s0 : Int) (b : Bool), Mod_laysPart_L91 (Mod_laysPart_L51 n) 401 (q : Int) kind (c : Int) (bi b) s0 (wr (3 + wr (2 * (c : Int)))) 416 (sF h 416 g) = Mod_laysPart_L51 n 401 (q : Int) kind ((c + 1 : Nat) : Int) (sF h 416 (u1 (u1 g (3 + 2 * c) s0) (4 + 2 * c) (if b then hI h 412 (5 * q + c) else 9))) := by
    intro s0 b
    unfold Mod_laysPart_L91
    rw [wr_id (z := 2 * (c : Int)) (by omega) (by omega), wr_id (z := 3 + 2 * (c : Int)) (by omega) (by omega), w_416 m' (by omega) (by omega), tN (3 + 2 * (c : Int)) (3 + 2 * c) (by omega), sI_u, r_26 (m2 s0), ite_bi, wr_id (z := 4 + 2 * (c : Int)) (by omega) (by omega), wr_id (z := (c : Int) + 1) (by omega) (by omega), wr_id (z := 5 * (q : Int)) (by omega) (by omega), wr_id (z := 5 * (q : Int) + c) (by omega) (by omega)]
    rw [w_416 (m2 s0) (by omega) (by omega), r_15 (m2 s0), a_412 (m2 s0) (by omega) (by omega), w_416 (m2 s0) (by omega) (by omega), tN (4 + 2 * (c : Int)) (4 + 2 * c) (by omega), tN (5 * (q : Int) + c) (5 * q + c) (by omega), sI_u, sI_u, show (c : Int) + 1 = ((c + 1 : Nat) : Int) by omega, hI_sFn h _ (by decide)]
    cases b <;> rfl
  rw [ite_bi, step, r_14 m', wr_id (z := 5 * (q : Int)) (by omega) (by omega), wr_id (z := 5 * (q : Int) + c) (by omega) (by omega), a_411 m' (by omega) (by omega), step, tN (5 * (q : Int) + c) (5 * q + c) (by omega), hI_sFn h _ (by decide)]
  cases isOfB kind c <;> rfl
theorem Mod_laysPart_e (m : MS h) {q : Nat} (hq : q < 8) (kind : Int) : Mod_laysPart 401 (q : Int) kind h = some ((), sF h 416 (lp h q kind)) := by
  have main : ∀ v1 v2 : Int, Mod_laysPart_L51 FU 401 (q : Int) kind 0 (sF h 416 (u1 (u1 (u1 (hI h 416) 0 kind) 1 v1) 2 v2)) = some ((), sF h 416 (fun k => if k < 13 then (if k = 0 then kind else if k = 1 then v1 else if k = 2 then v2 else qp h q kind k) else hI h 416 k)) := by
    intro v1 v2
    rw [show FU = 999994 + 1 + 1 + 1 + 1 + 1 + 1 from rfl, show (0 : Int) = ((0 : Nat) : Int) from rfl, laysPart_s m hq (by decide), laysPart_s m hq (by decide), laysPart_s m hq (by decide), laysPart_s m hq (by decide), laysPart_s m hq (by decide), Mod_laysPart_L51, if_pos (by decide)]
    congr 3
    funext k
    by_cases hk : k < 13
    · rw [if_pos hk]
      have : k = 0 ∨ k = 1 ∨ k = 2 ∨ k = 3 ∨ k = 4 ∨ k = 5 ∨ k = 6 ∨ k = 7 ∨ k = 8 ∨ k = 9 ∨ k = 10 ∨ k = 11 ∨ k = 12 := by omega
      rcases this with rfl | rfl | rfl | rfl | rfl | rfl | rfl | rfl | rfl | rfl | rfl | rfl | rfl <;> rfl
    · rw [if_neg hk]
      unfold u1
      repeat rw [if_neg (by omega)]
  have m1 : MS (sF h 416 (u1 (hI h 416) 0 kind)) := m
  have m2 : ∀ v, MS (sF h 416 (u1 (u1 (hI h 416) 0 kind) 1 v)) := fun _ => m
  unfold Mod_laysPart
  rw [r_26 m, w_416 m (by decide) (by decide), show sI h 416 (0 : Int).toNat kind = sF h 416 (u1 (hI h 416) 0 kind) from rfl, r_26 m1]
  have L27 : ∀ v1 : Int, Mod_laysPart_L27 401 (q : Int) kind v1 1 416 (sF h 416 (u1 (hI h 416) 0 kind)) = some ((), sF h 416 (fun k => if k < 13 then (if k = 0 then kind else if k = 1 then v1 else if k = 2 then (if kind = 2 then hI h 410 q else -1) else qp h q kind k) else hI h 416 k)) := by
    intro v1
    unfold Mod_laysPart_L27
    rw [w_416 m1 (by decide) (by decide), sI_u, show (1 : Int).toNat = 1 from rfl, r_26 (m2 v1), w_416 (m2 v1) (by decide) (by decide), sI_u, r_13 (m2 v1), a_410 (m2 v1) (by omega) (by omega), w_416 (m2 v1) (by decide) (by decide), sI_u, show (2 : Int).toNat = 2 from rfl, main, main, tN (q : Int) q rfl, hI_sFn h _ (by decide)]
    by_cases hk : kind = 2
    · rw [if_neg (by simpa using hk), if_pos hk]
    · rw [if_pos hk, if_neg hk]
  rw [L27, r_12 m1, a_409 m1 (by omega) (by omega), L27, tN (q : Int) q rfl, hI_sFn h _ (by decide)]
  have fin : ∀ v1 : Int, v1 = (if kind = 2 then hI h 409 q else -1) → (fun k => if k < 13 then (if k = 0 then kind else if k = 1 then v1 else if k = 2 then (if kind = 2 then hI h 410 q else -1) else qp h q kind k) else hI h 416 k) = lp h q kind := by
    intro v1 e
    funext k
    unfold lp
    by_cases hk : k < 13
    · rw [if_pos hk, if_pos hk, e]
      unfold qp
      by_cases h0 : k = 0
      · rw [if_pos h0, if_pos h0]
      · rw [if_neg h0, if_neg h0]
        by_cases h1 : k = 1
        · rw [if_pos h1, if_pos h1]
        · rw [if_neg h1, if_neg h1]
          by_cases h2 : k = 2
          · rw [if_pos h2, if_pos h2]
          · rw [if_neg h2, if_neg h2]
    · rw [if_neg hk, if_neg hk]
  by_cases hk : kind = 2
  · rw [if_neg (by simpa using hk), fin _ (by rw [if_pos hk])]
  · rw [if_pos hk, fin _ (by rw [if_neg hk])]
end R4
