/-! Level 2: acts of the reference on its rows -/
def numf (f : Nat → Nat → Int) (row col : Int) : Int := if 3 ≤ col then f 404 (2 * row + col - 3).toNat else f 403 (3 * row + col).toNat
def numr (ρ : Nat → Int) (row col : Int) : Int := if 3 ≤ col then ρ (44 + (2 * row + col - 3).toNat) else ρ (8 + (3 * row + col).toNat)
theorem num_f (h : AH) (f : Nat → Nat → Int) : num (WI h f) = numf f := rfl
theorem num_h (h : AH) : num h = numf (hI h) := rfl
theorem numr_rr (f : Nat → Nat → Int) {row col : Int} (hr : 0 ≤ row) (hc : 0 ≤ col) (hc5 : col < 5) (hr2 : row < if 3 ≤ col then 8 else 12) : numr (rr f) row col = numf f row col := by
  unfold numr numf
  by_cases e : 3 ≤ col
  · rw [if_pos e] at hr2 ⊢; rw [if_pos e, rr_S f (by omega)]
  · rw [if_neg e] at hr2 ⊢; rw [if_neg e, rr_R f (by omega)]
theorem inF_cc {π : Nat → Int} {c d : Int → Int} {t : Int} (h0 : t = 0 → c 0 = d 0 ∧ c 1 = d 1 ∧ c 2 = d 2) (h1 : t ≠ 0 → c 3 = d 3 ∧ c 4 = d 4) : inF π c t = inF π d t := by
  unfold inF
  by_cases e : t = 0
  · rw [if_pos e, if_pos e, (h0 e).1, (h0 e).2.1, (h0 e).2.2]
  · rw [if_neg e, if_neg e, (h1 e).1, (h1 e).2]
theorem inF_num (f : Nat → Nat → Int) (π : Nat → Int) {t row : Int} (hr : 0 ≤ row) (hr2 : row < if t = 0 then 12 else 8) : inF π (numr (rr f) row) t = inF π (numf f row) t := by
  refine inF_cc (fun e => ?_) (fun e => ?_)
  · rw [if_pos e] at hr2
    exact ⟨numr_rr f hr (by decide) (by decide) (by simpa using hr2), numr_rr f hr (by decide) (by decide) (by simpa using hr2), numr_rr f hr (by decide) (by decide) (by simpa using hr2)⟩
  · rw [if_neg e] at hr2
    exact ⟨numr_rr f hr (by decide) (by decide) (by simpa using hr2), numr_rr f hr (by decide) (by decide) (by simpa using hr2)⟩
/-- a kept one of a row -/
def kp (ρ : Nat → Int) (k : Nat) : Nat → Int := fun u => ρ (60 + (16 * k + u))
def hitB (ρ : Nat → Int) (t row : Int) (k : Nat) : Bool := (decide (kp ρ k 0 = 2) || decide (kp ρ k 0 = t)) && inF (kp ρ k) (numr ρ row) t
/-- what has a row in its ranges is stale -/
def spo (ρ : Nat → Int) (t row : Int) : Nat → Int := fun j => if 60 ≤ j ∧ (j - 60) / 16 < (ρ 5).toNat ∧ (j - 60) % 16 = 15 ∧ hitB ρ t row ((j - 60) / 16) = true then 1 else ρ j
theorem iOr_0 {x : Int} (hx : x = 0 ∨ x = 1) : iOr x 0 = x := by rcases hx with rfl | rfl <;> decide +kernel
theorem iOr_1 {x : Int} (hx : x = 0 ∨ x = 1) : iOr x 1 = 1 := by rcases hx with rfl | rfl <;> decide +kernel
def stF (f : Nat → Nat → Int) (B : Nat → Bool) (n : Nat) : Nat → Nat → Int := fun a i => if a = 407 ∧ i / 16 < n ∧ i % 16 = 15 ∧ B (i / 16) = true then 1 else f a i
def htf (f : Nat → Nat → Int) (t row : Int) (k : Nat) : Bool := (decide (f 407 (16 * k) = 2) || decide (f 407 (16 * k) = t)) && inF (fun u => f 407 (16 * k + u)) (numf f row) t
theorem stF_n (f : Nat → Nat → Int) (B : Nat → Bool) (n : Nat) {a : Nat} (ha : a ≠ 407) : stF f B n a = f a := by
  funext i; unfold stF; rw [if_neg (fun x => ha x.1)]
theorem stF_m (f : Nat → Nat → Int) (B : Nat → Bool) (n : Nat) {i : Nat} (hi : i % 16 ≠ 15) : stF f B n 407 i = f 407 i := by
  unfold stF; rw [if_neg (fun x => hi x.2.2.1)]
theorem stF_k (f : Nat → Nat → Int) (B : Nat → Bool) (n : Nat) : stF f B n 407 (16 * n + 15) = f 407 (16 * n + 15) := by
  unfold stF; rw [if_neg (fun x => by have := x.2.1; omega)]
theorem stF_s (h : AH) {f : Nat → Nat → Int} {B : Nat → Bool} {k : Nat} {v : Int} (hv : v = if B k then 1 else f 407 (16 * k + 15)) : WI h (up2 (stF f B k) 407 (16 * k + 15) v) = WI h (stF f B (k + 1)) := WI_ext h (fun a i => by
  rw [up2_e]; unfold stF
  by_cases c : a = 407 ∧ i = 16 * k + 15
  · obtain ⟨c1, c2⟩ := c
    rw [if_pos ⟨c1, c2⟩, hv, c2, c1, show (16 * k + 15) / 16 = k by omega, show (16 * k + 15) % 16 = 15 by omega]
    cases B k <;> simp
  · rw [if_neg c]
    by_cases d : a = 407 ∧ i / 16 < k ∧ i % 16 = 15 ∧ B (i / 16) = true
    · rw [if_pos d, if_pos ⟨d.1, by omega, d.2.2⟩]
    · rw [if_neg d, if_neg (fun x => d ⟨x.1, by have h1 := x.1; have h2 := x.2.1; have h3 := x.2.2.1; omega, x.2.2⟩)])
section R18
variable {h : AH} {f : Nat → Nat → Int}
theorem turnsStale_L (m : MS h) {t row : Int} (ht : t = 0 ∨ t = 1) (hr : 0 ≤ row) (hr2 : row < if t = 0 then 12 else 8) (h6 : f 402 5 ≤ 6) (hs : ∀ k : Nat, (k : Int) < f 402 5 → f 407 (16 * k + 15) = 0 ∨ f 407 (16 * k + 15) = 1) : ∀ (n k fuel : Nat), (k : Int) + n = f 402 5 → n < fuel → Mod_turnsStale_L2 fuel 401 t row (k : Int) (WI h (stF f (htf f t row) k)) = some ((), WI h (stF f (htf f t row) (f 402 5).toNat))
  | 0, k, fuel + 1, hk, _ => by
    have m1 : ∀ f, MS (WI h f) := fun _ => m
    rw [Mod_turnsStale_L2, r_1 (m1 _), a_402 (m1 _) (by decide) (by decide), hI_WI, stF_n _ _ _ (by decide), show (5 : Int).toNat = 5 from rfl, if_pos (by omega), show (f 402 5).toNat = k by omega]
  | n + 1, k, fuel + 1, hk, hf => by
    have m1 : ∀ f, MS (WI h f) := fun _ => m
    have ih := turnsStale_L m ht hr hr2 h6 hs n (k + 1) fuel (by omega) (by omega)
    have s01 := hs k (by omega)
    have e7 : stF f (htf f t row) k 407 (16 * k) = f 407 (16 * k) := stF_m _ _ _ (by omega)
    have e15 := stF_k f (htf f t row) k
    have ei : inF (pf (WI h (stF f (htf f t row) k)) 407 (16 * k)) (num (WI h (stF f (htf f t row) k)) row) t = inF (fun u => f 407 (16 * k + u)) (numf f row) t := by
      rw [num_f, show numf (stF f (htf f t row) k) = numf f by funext x y; unfold numf; rw [stF_n _ _ _ (by decide), stF_n _ _ _ (by decide)]]
      exact inF_c (fun u hu => stF_m _ _ _ (by omega)) _ _
    have fin : ∀ b : Bool, (decide (f 407 (16 * k) = 2) || decide (f 407 (16 * k) = t)) = b → Mod_turnsStale_L45 (Mod_turnsStale_L2 fuel) 401 t row (k : Int) ((16 * k : Nat) : Int) (bi b) (WI h (stF f (htf f t row) k)) = some ((), WI h (stF f (htf f t row) (f 402 5).toNat)) := fun b hb => by
      unfold Mod_turnsStale_L45
      rw [r_9 (m1 _), wr_id (z := ((16 * k : Nat) : Int) + 15) (by omega) (by omega), a_407 (m1 _) (by omega) (by omega), tN (((16 * k : Nat) : Int) + 15) (16 * k + 15) (by omega), hI_WI, e15, wr_id (z := (k : Int) + 1) (by omega) (by omega), show (k : Int) + 1 = ((k + 1 : Nat) : Int) by omega, ite_bi, w_407 (m1 _) (by omega) (by omega), tN (((16 * k : Nat) : Int) + 15) (16 * k + 15) (by omega), WI_sI, iOr_0 s01]
      cases b
      · rw [if_neg (by decide), stF_s h (by unfold htf; rw [hb]; rfl)]
        exact ih
      · rw [if_pos rfl, r_9 (m1 _), c_m (m1 _), Mod_isInPart_e (m1 _) ((m1 _).K 5 rfl).2 (by omega) (by decide) ht hr hr2, bnd_some, ite_bi, ei, w_407 (m1 _) (by omega) (by omega), w_407 (m1 _) (by omega) (by omega), tN (((16 * k : Nat) : Int) + 15) (16 * k + 15) (by omega), WI_sI, WI_sI, iOr_1 s01]
        cases e : inF (fun u => f 407 (16 * k + u)) (numf f row) t
        · rw [if_neg (by decide), stF_s h (by unfold htf; rw [hb, e]; rfl)]
          exact ih
        · rw [if_pos rfl, stF_s h (by unfold htf; rw [hb, e]; rfl)]
          exact ih
    have f1 := fin true
    have f0 := fin false
    rw [bi_t] at f1
    rw [bi_f] at f0
    rw [Mod_turnsStale_L2, r_1 (m1 _), a_402 (m1 _) (by decide) (by decide), hI_WI, stF_n _ _ _ (show 402 ≠ 407 by decide), show (5 : Int).toNat = 5 from rfl, if_neg (by omega), r_9 (m1 _), wr_id (z := 16 * (k : Int)) (by omega) (by omega), show 16 * (k : Int) = ((16 * k : Nat) : Int) by omega, a_407 (m1 _) (by omega) (by omega), hI_WI, tN ((16 * k : Nat) : Int) (16 * k) rfl, e7, r_9 (m1 _), a_407 (m1 _) (by omega) (by omega), hI_WI, tN ((16 * k : Nat) : Int) (16 * k) rfl, e7]
    by_cases c2 : f 407 (16 * k) = 2
    · rw [if_pos c2, f1 (by simp [c2])]
    · rw [if_neg c2]
      by_cases ct : f 407 (16 * k) = t
      · rw [if_neg (by simpa using ct), f1 (by simp [ct])]
      · rw [if_pos ct, f0 (by simp [c2, ct])]
theorem stF_0 (f : Nat → Nat → Int) (B : Nat → Bool) : stF f B 0 = f := by
  funext a i; unfold stF; rw [if_neg (fun x => by have := x.2.1; omega)]
theorem Mod_turnsStale_e (m : MS h) {t row : Int} (ht : t = 0 ∨ t = 1) (hr : 0 ≤ row) (hr2 : row < if t = 0 then 12 else 8) (h0 : 0 ≤ f 402 5) (h6 : f 402 5 ≤ 6) (hs : ∀ k : Nat, (k : Int) < f 402 5 → f 407 (16 * k + 15) = 0 ∨ f 407 (16 * k + 15) = 1) : Mod_turnsStale 401 t row (WI h f) = some ((), WI h (stF f (htf f t row) (f 402 5).toNat)) := by
  have := turnsStale_L m ht hr hr2 h6 hs (f 402 5).toNat 0 FU (by omega) (by have := FU_big; omega)
  rw [stF_0] at this
  exact this
theorem rr_stF {t row : Int} (hr : 0 ≤ row) (hr2 : row < if t = 0 then 12 else 8) : rr (stF f (htf f t row) (f 402 5).toNat) = spo (rr f) t row := by
  funext j
  unfold spo
  rw [rr_s f (show 5 < 8 by decide)]
  by_cases c : 60 ≤ j
  · obtain ⟨i, rfl⟩ : ∃ i, j = 60 + i := ⟨j - 60, by omega⟩
    rw [rr_K, rr_K, show 60 + i - 60 = i by omega]
    have eh : htf f t row (i / 16) = hitB (rr f) t row (i / 16) := by
      unfold htf hitB kp
      rw [inF_num f _ hr hr2, rr_K, Nat.add_zero]
      congr 2
      funext u; rw [rr_K]
    unfold stF
    rw [eh]
    by_cases d : i / 16 < (f 402 5).toNat ∧ i % 16 = 15 ∧ hitB (rr f) t row (i / 16) = true
    · rw [if_pos ⟨rfl, d⟩, if_pos ⟨c, d⟩]
    · rw [if_neg (fun x => d x.2), if_neg (fun x => d x.2)]
  · rw [if_neg (fun x => c x.1)]
    unfold rr
    rw [stF_n _ _ _ (by decide), stF_n _ _ _ (by decide), stF_n _ _ _ (by decide)]
    by_cases d : j < 8
    · rw [if_pos d, if_pos d]
    · rw [if_neg d, if_neg d]
      by_cases d2 : j < 44
      · rw [if_pos d2, if_pos d2]
      · rw [if_neg d2, if_neg d2, if_pos (by omega), if_pos (by omega)]
theorem rr_u2 (f : Nat → Nat → Int) {k : Nat} (hk : k < 8) (v : Int) : rr (up2 f 402 k v) = u1 (rr f) k v := by
  funext j; simp only [rr, u1, up2_e]; grind
theorem rr_u3 (f : Nat → Nat → Int) {k : Nat} (hk : k < 36) (v : Int) : rr (up2 f 403 k v) = u1 (rr f) (8 + k) v := by
  funext j; simp only [rr, u1, up2_e]; grind
theorem rr_u4 (f : Nat → Nat → Int) {k : Nat} (hk : k < 16) (v : Int) : rr (up2 f 404 k v) = u1 (rr f) (44 + k) v := by
  funext j; simp only [rr, u1, up2_e]; grind
theorem rr_u7 (f : Nat → Nat → Int) (k : Nat) (v : Int) : rr (up2 f 407 k v) = u1 (rr f) (60 + k) v := by
  funext j; simp only [rr, u1, up2_e]; grind
theorem Mod_putsR (m : MS h) {r c : Nat} (hr : r < 12) (hc : c < 3) (v : Int) : Mod_putsCell 401 0 (r : Int) (c : Int) v (WI h f) = some ((), WI h (up2 f 403 (3 * r + c) v)) := by
  have m1 : ∀ f, MS (WI h f) := fun _ => m
  unfold Mod_putsCell
  rw [if_neg (by simp), r_2 (m1 _), wr_id (z := 3 * (r : Int)) (by omega) (by omega), wr_id (by omega) (by omega), w_403 (m1 _) (by omega) (by omega), WI_sI, tN (3 * (r : Int) + c) (3 * r + c) (by omega)]
theorem Mod_putsS (m : MS h) {r c : Nat} (hr : r < 8) (hc3 : 3 ≤ c) (hc : c < 5) (v : Int) : Mod_putsCell 401 1 (r : Int) (c : Int) v (WI h f) = some ((), WI h (up2 f 404 (2 * r + c - 3) v)) := by
  have m1 : ∀ f, MS (WI h f) := fun _ => m
  unfold Mod_putsCell
  rw [if_pos (by simp), r_3 (m1 _), wr_id (z := 2 * (r : Int)) (by omega) (by omega), wr_id (z := 2 * (r : Int) + c) (by omega) (by omega), wr_id (by omega) (by omega), w_404 (m1 _) (by omega) (by omega), WI_sI, tN (2 * (r : Int) + c - 3) (2 * r + c - 3) (by omega)]
end R18
/-- what rows always are -/
def RB (ρ : Nat → Int) : Prop := (ρ 0 = 0 ∨ ρ 0 = 1) ∧ (0 ≤ ρ 1 ∧ ρ 1 ≤ 99) ∧ (0 ≤ ρ 2 ∧ ρ 2 ≤ 12) ∧ (0 ≤ ρ 3 ∧ ρ 3 ≤ 8) ∧ (0 ≤ ρ 4 ∧ ρ 4 < 256) ∧ (0 ≤ ρ 5 ∧ ρ 5 ≤ 6) ∧ (∀ j : Nat, (j : Int) < 3 * ρ 2 → 0 ≤ ρ (8 + j) ∧ ρ (8 + j) ≤ 9) ∧ (∀ j : Nat, (j : Int) < 2 * ρ 3 → 0 ≤ ρ (44 + j) ∧ ρ (44 + j) ≤ 9) ∧ ∀ k : Nat, (k : Int) < ρ 5 → okP (kp ρ k) ∧ (0 ≤ kp ρ k 13 ∧ kp ρ k 13 ≤ 1000) ∧ (kp ρ k 15 = 0 ∨ kp ρ k 15 = 1)
/-- rows changed, nothing else -/
def RM (f f' : Nat → Nat → Int) : Prop := (∀ a, scrA a = false → a ≠ 402 → a ≠ 403 → a ≠ 404 → a ≠ 407 → f' a = f a) ∧ f' 401 10 = f 401 10 ∧ f' 401 18 = f 401 18 ∧ f' 401 43 = f 401 43 ∧ f' 402 8 = f 402 8
theorem RM.refl (f : Nat → Nat → Int) : RM f f := ⟨fun _ _ _ _ _ _ => rfl, rfl, rfl, rfl, rfl⟩
theorem RM.trans {a b c : Nat → Nat → Int} (x : RM a b) (y : RM b c) : RM a c := by
  obtain ⟨x1, x2, x3, x4, x5⟩ := x
  obtain ⟨y1, y2, y3, y4, y5⟩ := y
  exact ⟨fun k h1 h2 h3 h4 h5 => by rw [y1 k h1 h2 h3 h4 h5, x1 k h1 h2 h3 h4 h5], by rw [y2, x2], by rw [y3, x3], by rw [y4, x4], by rw [y5, x5]⟩
theorem RM_st (f : Nat → Nat → Int) (B : Nat → Bool) (n : Nat) : RM f (stF f B n) := ⟨fun a _ _ _ _ h7 => stF_n _ _ _ h7, by rw [stF_n _ _ _ (by decide)], by rw [stF_n _ _ _ (by decide)], by rw [stF_n _ _ _ (by decide)], by rw [stF_n _ _ _ (by decide)]⟩
theorem RM_u (f : Nat → Nat → Int) {a k : Nat} (v : Int) (ha : a = 402 ∧ k < 8 ∨ a = 403 ∨ a = 404 ∨ a = 407) : RM f (up2 f a k v) := by
  refine ⟨fun b _ h2 h3 h4 h7 => up2_ne (by omega), ?_, ?_, ?_, ?_⟩
  · rw [up2_e, if_neg (by omega)]
  · rw [up2_e, if_neg (by omega)]
  · rw [up2_e, if_neg (by omega)]
  · rw [up2_e, if_neg (by omega)]
/-- an act: what it changes, and that it can be undone -/
def AC (f f' : Nat → Nat → Int) (ρ' : Nat → Int) : Prop := (∀ a, scrA a = false → a ≠ 402 → a ≠ 403 → a ≠ 404 → a ≠ 407 → a ≠ 423 → f' a = f a) ∧ f' 401 10 = f 401 10 ∧ f' 401 18 = f 401 18 ∧ f' 402 8 = f 402 8 ∧ (∀ j, j < 156 → rr f' j = ρ' j) ∧ f' 401 43 = (if f 401 43 = 20 then 20 else f 401 43 + 1) ∧ ∀ k j : Nat, (k : Int) < f' 401 43 → j < 156 → f' 423 (156 * k + j) = if (k : Int) + 1 = f' 401 43 then rr f j else if f 401 43 = 20 then f 423 (156 * (k + 1) + j) else f 423 (156 * k + j)
section R18b
variable {h H : AH} {f f' f1 f2 : Nat → Nat → Int} {ρ ρ' : Nat → Int}
theorem KA.e (k : KA f f') {a : Nat} (h1 : a ≠ 423) (h2 : a ≠ 401) : f' a = f a := funext fun i => k.1 a i h1 (by omega)
theorem KA.row (k : KA f f') : rr f' = rr f := by
  funext j; unfold rr
  rw [k.e (a := 402) (by decide) (by decide), k.e (a := 403) (by decide) (by decide), k.e (a := 404) (by decide) (by decide), k.e (a := 407) (by decide) (by decide)]
theorem AC_of (k : KA f f1) (r : RM f1 f2) (e : ∀ j, j < 156 → rr f2 j = ρ' j) : AC f f2 ρ' := by
  obtain ⟨r1, r2, r3, r4, r5⟩ := r
  refine ⟨fun a h1 h2 h3 h4 h7 h23 => ?_, ?_, ?_, ?_, e, ?_, fun i j hi hj => ?_⟩
  · rw [r1 a h1 h2 h3 h4 h7]; exact k.e h23 (fun x => by rw [x] at h1; exact absurd h1 (by decide))
  · rw [r2]; exact k.1 401 10 (by decide) (by omega)
  · rw [r3]; exact k.1 401 18 (by decide) (by omega)
  · rw [r5, k.e (by decide) (by decide)]
  · rw [r4]; exact k.2.1
  · rw [r4] at hi ⊢
    rw [r1 423 (by decide) (by decide) (by decide) (by decide) (by decide)]
    exact k.2.2 i j hi hj
theorem RF.row (r : RF h H) : rr (hI H) = rr (hI h) := by
  funext j; unfold rr
  rw [r.i (a := 402) (by decide), r.i (a := 403) (by decide), r.i (a := 404) (by decide), r.i (a := 407) (by decide)]
theorem AC.pre (r : RF h H) (a : AC (hI H) f' ρ') : AC (hI h) f' ρ' := by
  obtain ⟨a1, a2, a3, a4, a5, a6, a7⟩ := a
  have e43 : hI H 401 43 = hI h 401 43 := r.2.2.2.2.2.2.2
  have e18 : hI H 401 18 = hI h 401 18 := r.2.2.2.2.2.2.1
  refine ⟨fun a h1 h2 h3 h4 h7 h23 => ?_, by rw [a2, r.q], by rw [a3, e18], by rw [a4, r.i (a := 402) (by decide)], a5, by rw [a6, e43], fun i j hi hj => ?_⟩
  · rw [a1 a h1 h2 h3 h4 h7 h23, r.i h1]
  · rw [a7 i j hi hj, r.row, e43, r.i (a := 423) (by decide)]
theorem RB.st (b : RB (rr f)) : ∀ k : Nat, (k : Int) < f 402 5 → f 407 (16 * k + 15) = 0 ∨ f 407 (16 * k + 15) = 1 := fun k hk => by
  obtain ⟨-, -, -, -, -, -, -, -, b9⟩ := b
  have := (b9 k hk).2.2
  unfold kp at this
  rw [rr_K] at this
  exact this
def putOk (ρ : Nat → Int) (t a b c : Int) : Bool := decide (ρ 0 = 1) && (inB t 0 1 && (inB a 0 9 && (inB b 0 9 && ((decide (t = 1) || inB c 0 9) && decide (ρ (if t = 0 then 2 else 3) < if t = 0 then 12 else 8)))))
def putRow (ρ : Nat → Int) (t a b c : Int) : Nat → Int :=
  if t = 0 then spo (u1 (u1 (u1 (u1 ρ 2 (ρ 2 + 1)) (8 + (3 * (ρ 2).toNat + 0)) a) (8 + (3 * (ρ 2).toNat + 1)) b) (8 + (3 * (ρ 2).toNat + 2)) c) 0 (ρ 2)
  else spo (u1 (u1 (u1 ρ 3 (ρ 3 + 1)) (44 + (2 * (ρ 3).toNat + 3 - 3)) a) (44 + (2 * (ρ 3).toNat + 4 - 3)) b) 1 (ρ 3)
theorem inB_01 {t : Int} (e : inB t 0 1 = true) : t = 0 ∨ t = 1 := by unfold inB at e; simp at e; omega
theorem Mod_put_n (m : MS h) (b : RB (rr (hI h))) {t a c d : Int} (e : putOk (rr (hI h)) t a c d = false) : Mod_put 401 t a c d h = some (-1, h) := by
  obtain ⟨-, -, b2, b3, -⟩ := b
  rw [rr_s _ (by decide)] at b2 b3
  have z : Mod_put_L64 401 t a c d 0 h = some (-1, h) := by unfold Mod_put_L64; rw [if_pos rfl]
  unfold Mod_put
  simp only [c_m m, Mod_isBase_e m, bnd_some, ite_bi, Mod_in_e, z]
  unfold putOk at e
  rw [rr_s (hI h) (show 0 < 8 by decide)] at e
  cases e1 : decide (hI h 402 0 = 1)
  · rfl
  · rw [if_pos rfl]
    cases e2 : inB t 0 1
    · rfl
    · rw [if_pos rfl]
      cases e3 : inB a 0 9
      · rfl
      · rw [if_pos rfl]
        cases e4 : inB c 0 9
        · rfl
        · rw [if_pos rfl]
          rw [e1, e2, e3, e4] at e
          simp only [Bool.true_and] at e
          have L : decide (rr (hI h) (if t = 0 then 2 else 3) < if t = 0 then 12 else 8) = false → Mod_put_L64 401 t a c d 1 h = some (-1, h) := fun e5 => by
            unfold Mod_put_L64 Mod_put_L87
            rw [if_neg (by decide), c_m m, Mod_manyOf_e m, bnd_some]
            unfold rN
            by_cases t0 : t = 0
            · rw [if_pos t0, if_pos t0, rr_s _ (by decide)] at e5
              have e5 := of_decide_eq_false e5
              rw [if_neg (by simpa using t0), if_pos t0, if_neg (by omega)]
            · rw [if_neg t0, if_neg t0, rr_s _ (by decide)] at e5
              have e5 := of_decide_eq_false e5
              rw [if_pos t0, if_neg t0, if_neg (by omega)]
          by_cases t1 : t = 1
          · rw [if_pos t1]
            rw [show decide (t = 1) = true from decide_eq_true t1, Bool.true_or, Bool.true_and] at e
            exact L e
          · rw [if_neg t1]
            rw [show decide (t = 1) = false from decide_eq_false t1, Bool.false_or] at e
            cases e6 : inB d 0 9
            · rfl
            · rw [e6, Bool.true_and] at e
              rw [if_pos rfl]; exact L e
theorem Mod_put_y (m : MS h) (b : RB (rr (hI h))) (h0 : 0 ≤ hI h 401 43) (h1 : hI h 401 43 ≤ 20) {t a c d : Int} (e : putOk (rr (hI h)) t a c d = true) : ∃ f', Mod_put 401 t a c d h = some (rr (hI h) (if t = 0 then 2 else 3) + 1, WI h f') ∧ AC (hI h) f' (putRow (rr (hI h)) t a c d) := by
  have b' := b
  obtain ⟨-, -, b2, b3, -, b5, -⟩ := b
  rw [rr_s _ (by decide)] at b2 b3 b5
  have m1 : ∀ f, MS (WI h f) := fun _ => m
  obtain ⟨f1, x1, ka⟩ := Mod_keepsAct_e m (f := hI h) h0 h1
  rw [WI_id] at x1
  have k2 : f1 402 = hI h 402 := ka.e (by decide) (by decide)
  have k7 : f1 407 = hI h 407 := ka.e (by decide) (by decide)
  have st := b'.st
  unfold putOk at e
  rw [rr_s (hI h) (show 0 < 8 by decide)] at e
  simp only [Bool.and_eq_true, Bool.or_eq_true] at e
  obtain ⟨e1, e2, e3, e4, e5, e6⟩ := e
  have e6 := of_decide_eq_true e6
  unfold Mod_put
  simp only [c_m m, Mod_isBase_e m, bnd_some, ite_bi, Mod_in_e, e1, e2, e3, e4, if_true]
  have e7 : (if t = 1 then Mod_put_L64 401 t a c d 1 h else if inB d 0 9 = true then Mod_put_L64 401 t a c d 1 h else Mod_put_L64 401 t a c d 0 h) = Mod_put_L64 401 t a c d 1 h := by
    by_cases t1 : t = 1
    · rw [if_pos t1]
    · rw [if_neg t1, if_pos (by rcases e5 with x | x; exact absurd (of_decide_eq_true x) t1; exact x)]
  rw [e7]
  unfold Mod_put_L64 Mod_put_L87 putRow
  rw [if_neg (show ¬ (1 : Int) = 0 by decide), c_m m, Mod_manyOf_e m, bnd_some]
  rcases inB_01 e2 with rfl | rfl
  · rw [if_pos rfl, if_pos rfl, rr_s _ (show 2 < 8 by decide)] at e6
    have en : hI h 402 2 = (((hI h 402 2).toNat : Nat) : Int) := by omega
    rw [if_neg (by simp), show rN h 0 = hI h 402 2 from rfl, if_pos (by omega), c_m m, x1, bnd_some, c_m (m1 _), Mod_manyOf_e (m1 _), bnd_some, if_neg (by simp), r_1 (m1 _), if_neg (by simp), show rN (WI h f1) 0 = f1 402 2 from rfl, k2, if_pos rfl, if_pos rfl, rr_s _ (show 2 < 8 by decide)]
    generalize hN0 : (hI h 402 2).toNat = N at *
    unfold Mod_put_L127
    rw [a_402 (m1 _) (by decide) (by decide), hI_WI, show (2 : Int).toNat = 2 from rfl, k2, en, wr_id (by omega) (by omega), w_402 (m1 _) (by decide) (by decide), WI_sI, show (2 : Int).toNat = 2 from rfl, c_m (m1 _), show (0 : Int) = ((0 : Nat) : Int) from rfl]
    rw [show Mod_putsCell 401 ((0 : Nat) : Int) (N : Int) ((0 : Nat) : Int) a = Mod_putsCell 401 0 (N : Int) ((0 : Nat) : Int) a from rfl, Mod_putsR m (by omega) (by decide), bnd_some, c_m (m1 _), show wr (((0 : Nat) : Int) + 1) = ((1 : Nat) : Int) from rfl, show Mod_putsCell 401 ((0 : Nat) : Int) (N : Int) ((1 : Nat) : Int) c = Mod_putsCell 401 0 (N : Int) ((1 : Nat) : Int) c from rfl, Mod_putsR m (by omega) (by decide), bnd_some, if_neg (by simp), c_m (m1 _), show Mod_putsCell 401 ((0 : Nat) : Int) (N : Int) 2 d = Mod_putsCell 401 0 (N : Int) ((2 : Nat) : Int) d from rfl, Mod_putsR m (by omega) (by decide), bnd_some, c_m (m1 _)]
    generalize hf5 : up2 (up2 (up2 (up2 f1 402 2 ((N : Int) + 1)) 403 (3 * N + 0) a) 403 (3 * N + 1) c) 403 (3 * N + 2) d = f5
    have f52 : f5 402 5 = hI h 402 5 := by rw [← hf5, up2_e, if_neg (by omega), up2_e, if_neg (by omega), up2_e, if_neg (by omega), up2_e, if_neg (by omega), k2]
    have f57 : f5 407 = hI h 407 := by rw [← hf5, up2_ne (by decide), up2_ne (by decide), up2_ne (by decide), up2_ne (by decide), k7]
    rw [show Mod_turnsStale 401 ((0 : Nat) : Int) = Mod_turnsStale 401 0 from rfl, Mod_turnsStale_e m (Or.inl rfl) (by omega) (by rw [if_pos rfl]; omega) (by omega) (by omega) (by rw [f52, f57]; exact st), bnd_some]
    refine ⟨_, rfl, AC_of ka ?_ (fun j _ => ?_)⟩
    · rw [← hf5]
      exact (RM_u _ _ (by omega)).trans ((RM_u _ _ (by omega)).trans ((RM_u _ _ (by omega)).trans ((RM_u _ _ (by omega)).trans (RM_st _ _ _))))
    · rw [show ((0 : Nat) : Int) = 0 from rfl, rr_stF (by omega) (by rw [if_pos rfl]; omega), ← hf5, rr_u3 _ (by omega), rr_u3 _ (by omega), rr_u3 _ (by omega), rr_u2 _ (by decide), ka.row]
  · rw [if_neg (show ¬ (1 : Int) = 0 by decide), if_neg (show ¬ (1 : Int) = 0 by decide), rr_s _ (show 3 < 8 by decide)] at e6
    have en : hI h 402 3 = (((hI h 402 3).toNat : Nat) : Int) := by omega
    rw [if_pos (by decide), show rN h 1 = hI h 402 3 from rfl, if_pos (by omega), c_m m, x1, bnd_some, c_m (m1 _), Mod_manyOf_e (m1 _), bnd_some, if_pos (by decide), r_1 (m1 _), if_pos (by decide), show rN (WI h f1) 1 = f1 402 3 from rfl, k2, if_neg (show ¬ (1 : Int) = 0 by decide), if_neg (show ¬ (1 : Int) = 0 by decide), rr_s _ (show 3 < 8 by decide)]
    generalize hN0 : (hI h 402 3).toNat = N at *
    unfold Mod_put_L127
    rw [a_402 (m1 _) (by decide) (by decide), hI_WI, show (3 : Int).toNat = 3 from rfl, k2, en, wr_id (by omega) (by omega), w_402 (m1 _) (by decide) (by decide), WI_sI, show (3 : Int).toNat = 3 from rfl, c_m (m1 _)]
    rw [show Mod_putsCell 401 1 (N : Int) 3 a = Mod_putsCell 401 1 (N : Int) ((3 : Nat) : Int) a from rfl, Mod_putsS m (by omega) (by decide) (by decide), bnd_some, c_m (m1 _), show wr (3 + 1) = ((4 : Nat) : Int) from rfl, Mod_putsS m (by omega) (by decide) (by decide), bnd_some, if_pos (by decide), c_m (m1 _)]
    generalize hf5 : up2 (up2 (up2 f1 402 3 ((N : Int) + 1)) 404 (2 * N + 3 - 3) a) 404 (2 * N + 4 - 3) c = f5
    have f52 : f5 402 5 = hI h 402 5 := by rw [← hf5, up2_e, if_neg (by omega), up2_e, if_neg (by omega), up2_e, if_neg (by omega), k2]
    have f57 : f5 407 = hI h 407 := by rw [← hf5, up2_ne (by decide), up2_ne (by decide), up2_ne (by decide), k7]
    rw [Mod_turnsStale_e m (Or.inr rfl) (by omega) (by rw [if_neg (by decide)]; omega) (by omega) (by omega) (by rw [f52, f57]; exact st), bnd_some]
    refine ⟨_, rfl, AC_of ka ?_ (fun j _ => ?_)⟩
    · rw [← hf5]
      exact (RM_u _ _ (by omega)).trans ((RM_u _ _ (by omega)).trans ((RM_u _ _ (by omega)).trans (RM_st _ _ _)))
    · rw [rr_stF (by omega) (by rw [if_neg (by decide)]; omega), ← hf5, rr_u4 _ (by omega), rr_u4 _ (by omega), rr_u2 _ (by decide), ka.row]
end R18b
