/-! Level 2: remove, change, strike -/
/-- entries moved nearer -/
def shF (f : Nat → Nat → Int) (A w lo hi : Nat) : Nat → Nat → Int := fun a i => if a = A ∧ lo ≤ i ∧ i < hi then f A (i + w) else f a i
theorem shF_n (f : Nat → Nat → Int) (A w lo hi : Nat) {a : Nat} (ha : a ≠ A) : shF f A w lo hi a = f a := by
  funext i; unfold shF; rw [if_neg (fun x => ha x.1)]
theorem shF_i (f : Nat → Nat → Int) {A w lo hi i : Nat} (h : ¬ (lo ≤ i ∧ i < hi)) : shF f A w lo hi A i = f A i := by
  unfold shF; rw [if_neg (fun x => h x.2)]
theorem shF_0 (f : Nat → Nat → Int) {A w lo hi : Nat} (h : hi ≤ lo) : shF f A w lo hi = f := by
  funext a i; unfold shF; rw [if_neg (fun x => by have := x.2; omega)]
theorem shF_s (h : AH) (f : Nat → Nat → Int) {A w lo hi : Nat} (hl : lo ≤ hi) : WI h (up2 (shF f A w lo hi) A hi (f A (hi + w))) = WI h (shF f A w lo (hi + 1)) := WI_ext h (fun a i => by
  rw [up2_e]; unfold shF
  by_cases c : a = A ∧ i = hi
  · rw [if_pos c, if_pos ⟨c.1, by omega, by omega⟩, c.2]
  · rw [if_neg c]
    by_cases d : a = A ∧ lo ≤ i ∧ i < hi
    · rw [if_pos d, if_pos ⟨d.1, by omega, by omega⟩]
    · rw [if_neg d, if_neg (fun x => d ⟨x.1, by omega, by have := x.1; omega⟩)])
section R19
variable {h H : AH} {f f' f1 f2 : Nat → Nat → Int} {ρ ρ' : Nat → Int}
theorem remove_cR (m : MS h) (K : Nat → Int → Int → AH → Option (Int × AH)) {lo k c n : Nat} (hc : c < 3) (hk : k < 11) (hl : lo ≤ 3 * k + c) : Mod_remove_L61 K (n + 1) 401 0 (k : Int) (c : Int) (WI h (shF f 403 3 lo (3 * k + c))) = Mod_remove_L61 K n 401 0 (k : Int) ((c + 1 : Nat) : Int) (WI h (shF f 403 3 lo (3 * k + c + 1))) := by
  have m1 : ∀ f, MS (WI h f) := fun _ => m
  rw [Mod_remove_L61, if_neg (by simp)]
  unfold Mod_remove_L72
  rw [if_neg (by omega), wr_id (z := (k : Int) + 1) (by omega) (by omega), c_m (m1 _), Mod_numR (m1 _) (by omega) (by omega) (by omega) (by omega), bnd_some, c_m (m1 _), Mod_putsR m (by omega) hc, bnd_some, wr_id (z := (c : Int) + 1) (by omega) (by omega), show (c : Int) + 1 = ((c + 1 : Nat) : Int) by omega]
  rw [← shF_s h f hl]
  congr 3
  rw [num_f]
  unfold numf
  rw [if_neg (by omega), tN (3 * ((k : Int) + 1) + c) (3 * k + c + 3) (by omega), shF_i f (by omega)]
theorem remove_cS (m : MS h) (K : Nat → Int → Int → AH → Option (Int × AH)) {lo k c n : Nat} (hc3 : 3 ≤ c) (hc : c < 5) (hk : k < 7) (hl : lo ≤ 2 * k + c - 3) : Mod_remove_L61 K (n + 1) 401 1 (k : Int) (c : Int) (WI h (shF f 404 2 lo (2 * k + c - 3))) = Mod_remove_L61 K n 401 1 (k : Int) ((c + 1 : Nat) : Int) (WI h (shF f 404 2 lo (2 * k + c - 3 + 1))) := by
  have m1 : ∀ f, MS (WI h f) := fun _ => m
  rw [Mod_remove_L61, if_pos (by simp)]
  unfold Mod_remove_L72
  rw [if_neg (by omega), wr_id (z := (k : Int) + 1) (by omega) (by omega), c_m (m1 _), Mod_numS (m1 _) (by omega) (by omega) (by omega) (by omega), bnd_some, c_m (m1 _), Mod_putsS m (by omega) hc3 hc, bnd_some, wr_id (z := (c : Int) + 1) (by omega) (by omega), show (c : Int) + 1 = ((c + 1 : Nat) : Int) by omega]
  rw [← shF_s h f hl]
  congr 3
  rw [num_f]
  unfold numf
  rw [if_pos (by omega), tN (2 * ((k : Int) + 1) + c - 3) (2 * k + c - 3 + 2) (by omega), shF_i f (by omega)]
theorem remove_R (m : MS h) {row : Nat} (hf : f 402 2 ≤ 11) : ∀ (n k fuel : Nat), (k : Int) + n = f 402 2 → row ≤ k → n < fuel → Mod_remove_L41 fuel 401 0 (k : Int) (WI h (shF f 403 3 (3 * row) (3 * k))) = some (f 402 2, WI h (shF f 403 3 (3 * row) (3 * (f 402 2).toNat)))
  | 0, k, fuel + 1, hk, _, _ => by
    have m1 : ∀ f, MS (WI h f) := fun _ => m
    have e : rN (WI h (shF f 403 3 (3 * row) (3 * k))) 0 = f 402 2 := by show shF f 403 3 (3 * row) (3 * k) 402 2 = _; rw [shF_n _ _ _ _ _ (by decide)]
    rw [Mod_remove_L41, c_m (m1 _), Mod_manyOf_e (m1 _), bnd_some, e, if_pos (by omega), c_m (m1 _), Mod_manyOf_e (m1 _), bnd_some, e, show (f 402 2).toNat = k by omega]
  | n + 1, k, fuel + 1, hk, hr, hfu => by
    have m1 : ∀ f, MS (WI h f) := fun _ => m
    have e : rN (WI h (shF f 403 3 (3 * row) (3 * k))) 0 = f 402 2 := by show shF f 403 3 (3 * row) (3 * k) 402 2 = _; rw [shF_n _ _ _ _ _ (by decide)]
    have ih := remove_R m (row := row) hf n (k + 1) fuel (by omega) (by omega) (by omega)
    rw [Mod_remove_L41, c_m (m1 _), Mod_manyOf_e (m1 _), bnd_some, e, if_neg (by omega), if_neg (by simp), show FU = 999996 + 1 + 1 + 1 + 1 from rfl, show (0 : Int) = ((0 : Nat) : Int) from rfl]
    rw [show Mod_remove_L61 (Mod_remove_L41 fuel) (999996 + 1 + 1 + 1 + 1) 401 ((0 : Nat) : Int) (k : Int) ((0 : Nat) : Int) (WI h (shF f 403 3 (3 * row) (3 * k))) = Mod_remove_L61 (Mod_remove_L41 fuel) (999996 + 1 + 1 + 1 + 1) 401 0 (k : Int) ((0 : Nat) : Int) (WI h (shF f 403 3 (3 * row) (3 * k + 0))) from rfl, remove_cR m _ (by decide) (by omega) (by omega), remove_cR m _ (by decide) (by omega) (by omega), remove_cR m _ (by decide) (by omega) (by omega), Mod_remove_L61, if_neg (by simp)]
    unfold Mod_remove_L72
    rw [if_pos (by decide), wr_id (by omega) (by omega), show (k : Int) + 1 = ((k + 1 : Nat) : Int) by omega, show 3 * k + 0 + 1 + 1 + 1 = 3 * (k + 1) by omega]
    exact ih
theorem remove_S (m : MS h) {row : Nat} (hf : f 402 3 ≤ 7) : ∀ (n k fuel : Nat), (k : Int) + n = f 402 3 → row ≤ k → n < fuel → Mod_remove_L41 fuel 401 1 (k : Int) (WI h (shF f 404 2 (2 * row) (2 * k))) = some (f 402 3, WI h (shF f 404 2 (2 * row) (2 * (f 402 3).toNat)))
  | 0, k, fuel + 1, hk, _, _ => by
    have m1 : ∀ f, MS (WI h f) := fun _ => m
    have e : rN (WI h (shF f 404 2 (2 * row) (2 * k))) 1 = f 402 3 := by show shF f 404 2 (2 * row) (2 * k) 402 3 = _; rw [shF_n _ _ _ _ _ (by decide)]
    rw [Mod_remove_L41, c_m (m1 _), Mod_manyOf_e (m1 _), bnd_some, e, if_pos (by omega), c_m (m1 _), Mod_manyOf_e (m1 _), bnd_some, e, show (f 402 3).toNat = k by omega]
  | n + 1, k, fuel + 1, hk, hr, hfu => by
    have m1 : ∀ f, MS (WI h f) := fun _ => m
    have e : rN (WI h (shF f 404 2 (2 * row) (2 * k))) 1 = f 402 3 := by show shF f 404 2 (2 * row) (2 * k) 402 3 = _; rw [shF_n _ _ _ _ _ (by decide)]
    have ih := remove_S m (row := row) hf n (k + 1) fuel (by omega) (by omega) (by omega)
    rw [Mod_remove_L41, c_m (m1 _), Mod_manyOf_e (m1 _), bnd_some, e, if_neg (by omega), if_pos (by simp), show FU = 999997 + 1 + 1 + 1 from rfl]
    rw [show Mod_remove_L61 (Mod_remove_L41 fuel) (999997 + 1 + 1 + 1) 401 1 (k : Int) 3 (WI h (shF f 404 2 (2 * row) (2 * k))) = Mod_remove_L61 (Mod_remove_L41 fuel) (999997 + 1 + 1 + 1) 401 1 (k : Int) ((3 : Nat) : Int) (WI h (shF f 404 2 (2 * row) (2 * k + 3 - 3))) from rfl, remove_cS m _ (by decide) (by decide) (by omega) (by omega), show 2 * k + 3 - 3 + 1 = 2 * k + (3 + 1) - 3 by omega, remove_cS m _ (by decide) (by decide) (by omega) (by omega), Mod_remove_L61, if_pos (by simp)]
    unfold Mod_remove_L72
    rw [if_pos (by decide), wr_id (by omega) (by omega), show (k : Int) + 1 = ((k + 1 : Nat) : Int) by omega, show 2 * k + (3 + 1) - 3 + 1 = 2 * (k + 1) by omega]
    exact ih
def rowOk (ρ : Nat → Int) (t row : Int) : Bool := decide (t = 0 ∨ t = 1) && (decide (0 ≤ row) && decide (row < ρ (if t = 0 then 2 else 3)))
theorem rIsRow_r (h : AH) (t row : Int) : rIsRow h t row = rowOk (rr (hI h)) t row := by
  unfold rIsRow rowOk rN
  by_cases e : t = 0
  · rw [if_pos e, if_pos e, rr_s _ (by decide)]
  · rw [if_neg e, if_neg e, rr_s _ (by decide)]
def shr (ρ : Nat → Int) (B w lo hi : Nat) : Nat → Int := fun j => if B ≤ j ∧ lo ≤ j - B ∧ j - B < hi then ρ (j + w) else ρ j
def rmRow (ρ : Nat → Int) (t row : Int) : Nat → Int :=
  if t = 0 then shr (u1 (spo ρ 0 row) 2 (ρ 2 - 1)) 8 3 (3 * row.toNat) (3 * (ρ 2 - 1).toNat)
  else shr (u1 (spo ρ 1 row) 3 (ρ 3 - 1)) 44 2 (2 * row.toNat) (2 * (ρ 3 - 1).toNat)
theorem rr_sh3 {lo hi : Nat} (hh : hi ≤ 33) : rr (shF f 403 3 lo hi) = shr (rr f) 8 3 lo hi := by
  funext j
  unfold shr rr
  simp only [shF_n f 403 3 lo hi (show 402 ≠ 403 by decide), shF_n f 403 3 lo hi (show 404 ≠ 403 by decide), shF_n f 403 3 lo hi (show 407 ≠ 403 by decide)]
  by_cases c : 8 ≤ j ∧ lo ≤ j - 8 ∧ j - 8 < hi
  · rw [if_pos c, if_neg (by omega), if_pos (by omega), if_neg (by omega), if_pos (by omega)]
    unfold shF
    rw [if_pos ⟨rfl, c.2⟩]; congr 1; omega
  · rw [if_neg c]
    by_cases d : j < 8
    · rw [if_pos d, if_pos d]
    · rw [if_neg d, if_neg d]
      by_cases d2 : j < 44
      · rw [if_pos d2, if_pos d2, shF_i f (by omega)]
      · rw [if_neg d2, if_neg d2]
theorem rr_sh4 {lo hi : Nat} (hh : hi ≤ 14) : rr (shF f 404 2 lo hi) = shr (rr f) 44 2 lo hi := by
  funext j
  unfold shr rr
  simp only [shF_n f 404 2 lo hi (show 402 ≠ 404 by decide), shF_n f 404 2 lo hi (show 403 ≠ 404 by decide), shF_n f 404 2 lo hi (show 407 ≠ 404 by decide)]
  by_cases c : 44 ≤ j ∧ lo ≤ j - 44 ∧ j - 44 < hi
  · rw [if_pos c, if_neg (by omega), if_neg (by omega), if_pos (by omega), if_neg (by omega), if_neg (by omega), if_pos (by omega)]
    unfold shF
    rw [if_pos ⟨rfl, c.2⟩]; congr 1; omega
  · rw [if_neg c]
    by_cases d : j < 8
    · rw [if_pos d, if_pos d]
    · rw [if_neg d, if_neg d]
      by_cases d2 : j < 44
      · rw [if_pos d2, if_pos d2]
      · rw [if_neg d2, if_neg d2]
        by_cases d3 : j < 60
        · rw [if_pos d3, if_pos d3, shF_i f (by omega)]
        · rw [if_neg d3, if_neg d3]
theorem RM_sh (f : Nat → Nat → Int) {A w lo hi : Nat} (hA : A = 403 ∨ A = 404 ∨ A = 407) : RM f (shF f A w lo hi) :=
  ⟨fun a _ _ h3 h4 h7 => shF_n _ _ _ _ _ (by omega), by rw [shF_n _ _ _ _ _ (by omega)], by rw [shF_n _ _ _ _ _ (by omega)], by rw [shF_n _ _ _ _ _ (by omega)], by rw [shF_n _ _ _ _ _ (by omega)]⟩
theorem MB_r (b : MB h) (c : RB (rr (hI h))) : MB h := b
theorem Mod_remove_n (m : MS h) (b : MB h) {t row : Int} (e : rowOk (rr (hI h)) t row = false) : Mod_remove 401 t row h = some (-1, h) := by
  unfold Mod_remove
  rw [c_m m, Mod_isRow_e m b, bnd_some, ite_nbi, rIsRow_r, e, if_neg (by decide)]
theorem Mod_remove_y (m : MS h) (mb : MB h) (b : RB (rr (hI h))) (h0 : 0 ≤ hI h 401 43) (h1 : hI h 401 43 ≤ 20) {t row : Int} (e : rowOk (rr (hI h)) t row = true) : ∃ f', Mod_remove 401 t row h = some (rr (hI h) (if t = 0 then 2 else 3) - 1, WI h f') ∧ AC (hI h) f' (rmRow (rr (hI h)) t row) := by
  have b' := b
  obtain ⟨-, -, b2, b3, -, b5, -⟩ := b
  rw [rr_s _ (by decide)] at b2 b3 b5
  have m1 : ∀ f, MS (WI h f) := fun _ => m
  obtain ⟨f1, x1, ka⟩ := Mod_keepsAct_e m (f := hI h) h0 h1
  rw [WI_id] at x1
  have k2 : f1 402 = hI h 402 := ka.e (by decide) (by decide)
  have k7 : f1 407 = hI h 407 := ka.e (by decide) (by decide)
  have st := b'.st
  have st1 : ∀ k : Nat, (k : Int) < f1 402 5 → f1 407 (16 * k + 15) = 0 ∨ f1 407 (16 * k + 15) = 1 := by rw [k2, k7]; exact st
  unfold Mod_remove
  rw [c_m m, Mod_isRow_e m mb, bnd_some, ite_nbi, rIsRow_r, e, if_pos rfl, c_m m, x1, bnd_some, c_m (m1 _)]
  unfold rowOk at e
  simp only [Bool.and_eq_true, decide_eq_true_eq] at e
  obtain ⟨e1, e2, e3⟩ := e
  unfold rmRow
  rcases e1 with rfl | rfl
  · rw [if_pos rfl, rr_s _ (show 2 < 8 by decide)] at e3
    rw [Mod_turnsStale_e m (Or.inl rfl) e2 (by rw [if_pos rfl]; omega) (by rw [k2]; omega) (by rw [k2]; omega) st1, bnd_some, r_1 (m1 _), if_neg (by simp), a_402 (m1 _) (by decide) (by decide), hI_WI, stF_n _ _ _ (show 402 ≠ 407 by decide), show (2 : Int).toNat = 2 from rfl, k2, wr_id (by omega) (by omega), w_402 (m1 _) (by decide) (by decide), WI_sI, show (2 : Int).toNat = 2 from rfl, if_pos rfl, if_pos rfl, rr_s _ (show 2 < 8 by decide)]
    generalize hf3 : up2 (stF f1 (htf f1 0 row) (hI h 402 5).toNat) 402 2 (hI h 402 2 - 1) = f3
    have f32 : f3 402 2 = hI h 402 2 - 1 := by rw [← hf3, up2_e, if_pos ⟨rfl, rfl⟩]
    have R := remove_R (f := f3) m (row := row.toNat) (by omega) (f3 402 2 - row).toNat row.toNat FU (by omega) (by omega) (by have := FU_big; omega)
    rw [shF_0 f3 (by omega), show ((row.toNat : Nat) : Int) = row by omega, f32] at R
    rw [R]
    refine ⟨_, rfl, AC_of ka ?_ (fun j _ => ?_)⟩
    · rw [← hf3]
      exact ((RM_st _ _ _).trans (RM_u _ _ (by omega))).trans (RM_sh _ (by omega))
    · have ek : (hI h 402 5).toNat = (f1 402 5).toNat := by rw [k2]
      rw [rr_sh3 (by omega), ← hf3, rr_u2 _ (by decide), ek, rr_stF e2 (by rw [if_pos rfl]; omega), ka.row]
  · rw [if_neg (show ¬ (1 : Int) = 0 by decide), rr_s _ (show 3 < 8 by decide)] at e3
    rw [Mod_turnsStale_e m (Or.inr rfl) e2 (by rw [if_neg (by decide)]; omega) (by rw [k2]; omega) (by rw [k2]; omega) st1, bnd_some, r_1 (m1 _), if_pos (by simp), a_402 (m1 _) (by decide) (by decide), hI_WI, stF_n _ _ _ (show 402 ≠ 407 by decide), show (3 : Int).toNat = 3 from rfl, k2, wr_id (by omega) (by omega), w_402 (m1 _) (by decide) (by decide), WI_sI, show (3 : Int).toNat = 3 from rfl, if_neg (show ¬ (1 : Int) = 0 by decide), if_neg (show ¬ (1 : Int) = 0 by decide), rr_s _ (show 3 < 8 by decide)]
    generalize hf3 : up2 (stF f1 (htf f1 1 row) (hI h 402 5).toNat) 402 3 (hI h 402 3 - 1) = f3
    have f32 : f3 402 3 = hI h 402 3 - 1 := by rw [← hf3, up2_e, if_pos ⟨rfl, rfl⟩]
    have R := remove_S (f := f3) m (row := row.toNat) (by omega) (f3 402 3 - row).toNat row.toNat FU (by omega) (by omega) (by have := FU_big; omega)
    rw [shF_0 f3 (by omega), show ((row.toNat : Nat) : Int) = row by omega, f32] at R
    rw [R]
    refine ⟨_, rfl, AC_of ka ?_ (fun j _ => ?_)⟩
    · rw [← hf3]
      exact ((RM_st _ _ _).trans (RM_u _ _ (by omega))).trans (RM_sh _ (by omega))
    · have ek : (hI h 402 5).toNat = (f1 402 5).toNat := by rw [k2]
      rw [rr_sh4 (by omega), ← hf3, rr_u2 _ (by decide), ek, rr_stF e2 (by rw [if_neg (by decide)]; omega), ka.row]
/-- a cell -/
def cellOk (ρ : Nat → Int) (t row col : Int) : Bool := rowOk ρ t row && (if t = 0 then inB col 0 2 else inB col 3 4)
def cellA (ρ : Nat → Int) (t row col : Int) : Int := if cellOk ρ t row col then numr ρ row col else -1
theorem inB_i {v a b : Int} : inB v a b = true ↔ a ≤ v ∧ v ≤ b := by unfold inB; simp
theorem rowOk_i {t row : Int} : rowOk ρ t row = true ↔ (t = 0 ∨ t = 1) ∧ 0 ≤ row ∧ row < ρ (if t = 0 then 2 else 3) := by unfold rowOk; simp
theorem Mod_cell_e (m : MS h) (mb : MB h) (t row col : Int) : Mod_cell 401 t row col h = some (cellA (rr (hI h)) t row col, h) := by
  have c2 := mb.1
  have c3 := mb.2.1
  unfold Mod_cell Mod_cell_L35 cellA cellOk
  rw [c_m m, Mod_isRow_e m mb, bnd_some, ite_bi, rIsRow_r]
  cases e : rowOk (rr (hI h)) t row
  · rw [if_neg (by decide), Bool.false_and, if_neg (by decide)]
  · obtain ⟨e1, e2, e3⟩ := rowOk_i.mp e
    rw [if_pos rfl, Bool.true_and]
    rcases e1 with rfl | rfl
    · rw [if_pos rfl, rr_s _ (show 2 < 8 by decide)] at e3
      rw [if_neg (by simp), if_neg (by simp), Mod_in_e, bnd_some, ite_nbi, if_pos rfl]
      cases ei : inB col 0 2
      · rw [if_neg (by decide), if_neg (by decide)]
      · have := inB_i.mp ei
        rw [if_pos rfl, if_pos rfl, c_m m, Mod_numR m e2 (by omega) (by omega) (by omega), bnd_some, numr_rr _ e2 (by omega) (by omega) (by rw [if_neg (by omega)]; omega)]
        rfl
    · rw [if_neg (show ¬ (1 : Int) = 0 by decide), rr_s _ (show 3 < 8 by decide)] at e3
      rw [if_pos (by simp), if_pos (by simp), Mod_in_e, bnd_some, ite_nbi, if_neg (show ¬ (1 : Int) = 0 by decide)]
      cases ei : inB col 3 4
      · rw [if_neg (by decide), if_neg (by decide)]
      · have := inB_i.mp ei
        rw [if_pos rfl, if_pos rfl, c_m m, Mod_numS m e2 (by omega) (by omega) (by omega), bnd_some, numr_rr _ e2 (by omega) (by omega) (by rw [if_pos (by omega)]; omega)]
        rfl
def chgOk (ρ : Nat → Int) (t row col v : Int) : Bool := cellOk ρ t row col && (inB v 0 9 && !decide (numr ρ row col = v))
def cix (t row col : Int) : Nat := if t = 0 then 8 + (3 * row.toNat + col.toNat) else 44 + (2 * row.toNat + col.toNat - 3)
def chgRow (ρ : Nat → Int) (t row col v : Int) : Nat → Int := spo (u1 (spo ρ t row) (cix t row col) v) t row
theorem Mod_changes_e (m : MS h) {t row col v : Int} (ht : t = 0 ∨ t = 1) (hr : 0 ≤ row) (hr2 : row < if t = 0 then 12 else 8) (hc : if t = 0 then 0 ≤ col ∧ col < 3 else 3 ≤ col ∧ col < 5) (h0 : 0 ≤ f 402 5) (h6 : f 402 5 ≤ 6) (hs : ∀ k : Nat, (k : Int) < f 402 5 → f 407 (16 * k + 15) = 0 ∨ f 407 (16 * k + 15) = 1) : ∃ f', Mod_changes 401 t row col v (WI h f) = some ((), WI h f') ∧ RM f f' ∧ rr f' = chgRow (rr f) t row col v := by
  have m1 : ∀ f, MS (WI h f) := fun _ => m
  unfold Mod_changes
  rw [c_m (m1 _), Mod_turnsStale_e m ht hr hr2 h0 h6 hs, bnd_some, c_m (m1 _)]
  generalize hg : stF f (htf f t row) (f 402 5).toNat = g
  have g2 : g 402 = f 402 := by rw [← hg, stF_n _ _ _ (by decide)]
  have gs : ∀ k : Nat, (k : Int) < f 402 5 → g 407 (16 * k + 15) = 0 ∨ g 407 (16 * k + 15) = 1 := fun k hk => by
    rw [← hg]; unfold stF; split
    · exact Or.inr rfl
    · exact hs k hk
  have eg : rr g = spo (rr f) t row := by rw [← hg]; exact rr_stF hr hr2
  have rg : RM f g := by rw [← hg]; exact RM_st _ _ _
  unfold chgRow cix
  rcases ht with rfl | rfl
  · rw [if_pos rfl] at hr2 hc
    have p := Mod_putsR (f := g) m (r := row.toNat) (c := col.toNat) (by omega) (by omega) v
    rw [show ((row.toNat : Nat) : Int) = row by omega, show ((col.toNat : Nat) : Int) = col by omega] at p
    rw [p, bnd_some, c_m (m1 _), Mod_turnsStale_e m (Or.inl rfl) hr (by rw [if_pos rfl]; omega) (by rw [up2_e, if_neg (by omega), g2]; exact h0) (by rw [up2_e, if_neg (by omega), g2]; exact h6) (by intro k; rw [up2_e, if_neg (by omega), up2_e, if_neg (by omega), g2]; exact gs k), bnd_some]
    refine ⟨_, rfl, rg.trans ((RM_u _ _ (by omega)).trans (RM_st _ _ _)), ?_⟩
    rw [rr_stF hr (by rw [if_pos rfl]; omega), rr_u3 _ (by omega), eg, if_pos rfl]
  · rw [if_neg (show ¬ (1 : Int) = 0 by decide)] at hr2 hc
    have p := Mod_putsS (f := g) m (r := row.toNat) (c := col.toNat) (by omega) (by omega) (by omega) v
    rw [show ((row.toNat : Nat) : Int) = row by omega, show ((col.toNat : Nat) : Int) = col by omega] at p
    rw [p, bnd_some, c_m (m1 _), Mod_turnsStale_e m (Or.inr rfl) hr (by rw [if_neg (by decide)]; omega) (by rw [up2_e, if_neg (by omega), g2]; exact h0) (by rw [up2_e, if_neg (by omega), g2]; exact h6) (by intro k; rw [up2_e, if_neg (by omega), up2_e, if_neg (by omega), g2]; exact gs k), bnd_some]
    refine ⟨_, rfl, rg.trans ((RM_u _ _ (by omega)).trans (RM_st _ _ _)), ?_⟩
    rw [rr_stF hr (by rw [if_neg (by decide)]; omega), rr_u4 _ (by omega), eg, if_neg (show ¬ (1 : Int) = 0 by decide)]
theorem cell_b (b : RB ρ) {t row col : Int} (e : cellOk ρ t row col = true) : 0 ≤ numr ρ row col ∧ numr ρ row col ≤ 9 := by
  obtain ⟨-, -, b2, b3, -, -, b7, b8, -⟩ := b
  unfold cellOk at e
  rw [Bool.and_eq_true] at e
  obtain ⟨e1, e2⟩ := e
  obtain ⟨t1, t2, t3⟩ := rowOk_i.mp e1
  unfold numr
  rcases t1 with rfl | rfl
  · rw [if_pos rfl] at t3
    rw [if_pos rfl] at e2
    have := inB_i.mp e2
    rw [if_neg (by omega)]
    exact b7 _ (by omega)
  · rw [if_neg (show ¬ (1 : Int) = 0 by decide)] at t3
    rw [if_neg (show ¬ (1 : Int) = 0 by decide)] at e2
    have := inB_i.mp e2
    rw [if_pos (by omega)]
    exact b8 _ (by omega)
theorem Mod_change_n (m : MS h) (mb : MB h) (b : RB (rr (hI h))) {t row col v : Int} (e : chgOk (rr (hI h)) t row col v = false) : Mod_change 401 t row col v h = some (-1, h) := by
  unfold Mod_change chgOk at *
  rw [c_m m, Mod_cell_e m mb, bnd_some]
  unfold cellA
  cases e1 : cellOk (rr (hI h)) t row col
  · simp
  · have := cell_b b e1
    rw [if_pos rfl, if_neg (by omega), Mod_in_e, bnd_some, ite_bi]
    rw [e1, Bool.true_and] at e
    cases e2 : inB v 0 9
    · rw [if_neg (by decide)]
    · rw [e2, Bool.true_and] at e
      have e3 : numr (rr (hI h)) row col = v := by simpa using e
      rw [if_pos rfl, if_neg (by simpa using e3)]
theorem Mod_change_y (m : MS h) (mb : MB h) (b : RB (rr (hI h))) (h0 : 0 ≤ hI h 401 43) (h1 : hI h 401 43 ≤ 20) {t row col v : Int} (e : chgOk (rr (hI h)) t row col v = true) : ∃ f', Mod_change 401 t row col v h = some (numr (rr (hI h)) row col, WI h f') ∧ AC (hI h) f' (chgRow (rr (hI h)) t row col v) := by
  have m1 : ∀ f, MS (WI h f) := fun _ => m
  obtain ⟨f1, x1, ka⟩ := Mod_keepsAct_e m (f := hI h) h0 h1
  rw [WI_id] at x1
  have k2 : f1 402 = hI h 402 := ka.e (by decide) (by decide)
  have k7 : f1 407 = hI h 407 := ka.e (by decide) (by decide)
  have st := b.st
  have b5 := b.2.2.2.2.2.1
  have b2 := b.2.2.1
  have b3 := b.2.2.2.1
  rw [rr_s _ (by decide)] at b5 b2 b3
  unfold chgOk at e
  rw [Bool.and_eq_true, Bool.and_eq_true] at e
  obtain ⟨e1, e2, e3⟩ := e
  have cb := cell_b b e1
  have e3 : ¬ numr (rr (hI h)) row col = v := by simpa using e3
  have e1' := e1
  unfold cellOk at e1'
  rw [Bool.and_eq_true] at e1'
  obtain ⟨d1, d2⟩ := e1'
  obtain ⟨t1, t2, t3⟩ := rowOk_i.mp d1
  have hr2 : row < if t = 0 then 12 else 8 := by
    rcases t1 with rfl | rfl
    · rw [if_pos rfl, rr_s _ (by decide)] at t3; rw [if_pos rfl]; omega
    · rw [if_neg (show ¬ (1 : Int) = 0 by decide), rr_s _ (by decide)] at t3; rw [if_neg (by decide)]; omega
  have hc : if t = 0 then 0 ≤ col ∧ col < 3 else 3 ≤ col ∧ col < 5 := by
    rcases t1 with rfl | rfl
    · rw [if_pos rfl] at d2; have := inB_i.mp d2; rw [if_pos rfl]; omega
    · rw [if_neg (show ¬ (1 : Int) = 0 by decide)] at d2; have := inB_i.mp d2; rw [if_neg (by decide)]; omega
  obtain ⟨f2, x2, rm, er⟩ := Mod_changes_e (f := f1) m (v := v) t1 t2 hr2 hc (by rw [k2]; omega) (by rw [k2]; omega) (by rw [k2, k7]; exact st)
  refine ⟨f2, ?_, AC_of ka rm (fun j _ => by rw [er, ka.row])⟩
  unfold Mod_change
  rw [c_m m, Mod_cell_e m mb, bnd_some]
  unfold cellA
  rw [e1, if_pos rfl, if_neg (by omega), Mod_in_e, bnd_some, ite_bi, e2, if_pos rfl, if_pos e3, c_m m, x1, bnd_some, c_m (m1 _), x2, bnd_some]
/-- bits -/
def bitE (s : Int) : Nat → Int
  | 0 => 0
  | k + 1 => wr (bitE s k + iAnd (iShr s (k : Int)) 1)
theorem Mod_bits_e (s : Int) (h : AH) : Mod_bits s h = some (bitE s 16, h) := by
  have L : ∀ (n k : Nat), k + n = 16 → ∀ fuel, n < fuel → Mod_bits_L4 fuel s (bitE s k) (k : Int) h = some (bitE s 16, h) := by
    intro n
    induction n with
    | zero =>
      intro k hk fuel hf
      obtain ⟨fuel, rfl⟩ : ∃ j, fuel = j + 1 := ⟨fuel - 1, by omega⟩
      rw [Mod_bits_L4, if_pos (by omega), show k = 16 by omega]
    | succ n ih =>
      intro k hk fuel hf
      obtain ⟨fuel, rfl⟩ : ∃ j, fuel = j + 1 := ⟨fuel - 1, by omega⟩
      have := ih (k + 1) (by omega) fuel (by omega)
      rw [bitE] at this
      rw [Mod_bits_L4, if_neg (by omega), wr_id (z := (k : Int) + 1) (by omega) (by omega), show (k : Int) + 1 = ((k + 1 : Nat) : Int) by omega]
      exact this
  exact L 16 0 rfl FU (by decide)
def strOk (h : AH) (q : Int) : Bool := decide (hI h 402 0 = 1) && decide (0 ≤ q ∧ q < hI h 401 10)
def strRow (ρ : Nat → Int) (q : Int) : Nat → Int := u1 ρ 4 (iXor (ρ 4) (iShl 1 q))
theorem Mod_strike_n (m : MS h) (mb : MB h) {q : Int} (e : strOk h q = false) : Mod_strike 401 q h = some (-1, h) := by
  unfold Mod_strike strOk at *
  rw [c_m m, Mod_isBase_e m, bnd_some, ite_bi]
  cases e1 : decide (hI h 402 0 = 1)
  · rfl
  · rw [if_pos rfl, c_m m, Mod_isQuery_e m mb, bnd_some, ite_nbi]
    rw [e1, Bool.true_and] at e
    rw [e, if_neg (by decide)]
theorem Mod_strike_y (m : MS h) (mb : MB h) (h0 : 0 ≤ hI h 401 43) (h1 : hI h 401 43 ≤ 20) {q : Int} (e : strOk h q = true) : ∃ f', Mod_strike 401 q h = some (bitE (iXor (hI h 402 4) (iShl 1 q)) 16, WI h f') ∧ AC (hI h) f' (strRow (rr (hI h)) q) := by
  have m1 : ∀ f, MS (WI h f) := fun _ => m
  obtain ⟨f1, x1, ka⟩ := Mod_keepsAct_e m (f := hI h) h0 h1
  rw [WI_id] at x1
  have k2 : f1 402 = hI h 402 := ka.e (by decide) (by decide)
  unfold strOk at e
  rw [Bool.and_eq_true] at e
  refine ⟨up2 f1 402 4 (iXor (hI h 402 4) (iShl 1 q)), ?_, AC_of ka (RM_u _ _ (by omega)) (fun j _ => ?_)⟩
  · unfold Mod_strike
    rw [c_m m, Mod_isBase_e m, bnd_some, ite_bi, e.1, if_pos rfl, c_m m, Mod_isQuery_e m mb, bnd_some, ite_nbi, e.2, if_pos rfl, c_m m, x1, bnd_some, r_1 (m1 _), a_402 (m1 _) (by decide) (by decide), hI_WI, show (4 : Int).toNat = 4 from rfl, k2, w_402 (m1 _) (by decide) (by decide), WI_sI, r_1 (m1 _), a_402 (m1 _) (by decide) (by decide), hI_WI, show (4 : Int).toNat = 4 from rfl, up2_e, if_pos ⟨rfl, rfl⟩, Mod_bits_e, bnd_some]
  · rw [rr_u2 _ (by decide), ka.row]; rfl
end R19
