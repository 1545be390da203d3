/-! Level 2: kept ones of the reference -/
def rsm (ρ : Nat → Int) : Nat → Int
  | 0 => 0
  | k + 1 => rsm ρ k + kp ρ k 13
def lu (ρ : Nat → Int) : Nat → Nat
  | 0 => 0
  | k + 1 => if kp ρ k 14 < kp ρ (lu ρ k) 14 then k else lu ρ k
theorem lu_b (ρ : Nat → Int) : ∀ k : Nat, 0 < k → lu ρ k < k
  | 0, h => by omega
  | k + 1, _ => by
    rw [lu]; split
    · omega
    · by_cases e : k = 0
      · subst e; simp [lu]
      · have := lu_b ρ k (by omega); omega
theorem lu_1 (ρ : Nat → Int) : lu ρ 1 = 0 := by rw [lu]; split <;> rfl
/-- one is forgotten -/
def fgRow (ρ : Nat → Int) (k : Nat) : Nat → Int := shr (u1 ρ 5 (ρ 5 - 1)) 60 16 (16 * k) (16 * (ρ 5 - 1).toNat)
theorem kp_rr (f : Nat → Nat → Int) (k u : Nat) : kp (rr f) k u = f 407 (16 * k + u) := by unfold kp; rw [rr_K]
section R20
variable {h H : AH} {f f' f1 f2 : Nat → Nat → Int} {ρ ρ' : Nat → Int}
theorem rsm_b (hb : ∀ k : Nat, (k : Int) < ρ 5 → 0 ≤ kp ρ k 13 ∧ kp ρ k 13 ≤ 1000) : ∀ n : Nat, (n : Int) ≤ ρ 5 → 0 ≤ rsm ρ n ∧ rsm ρ n ≤ 1000 * n
  | 0, _ => by rw [rsm]; omega
  | n + 1, hn => by
    have := rsm_b hb n (by omega)
    have := hb n (by omega)
    rw [rsm]; omega
theorem RB.k (b : RB ρ) {k : Nat} (hk : (k : Int) < ρ 5) : okP (kp ρ k) ∧ (0 ≤ kp ρ k 13 ∧ kp ρ k 13 ≤ 1000) ∧ (kp ρ k 15 = 0 ∨ kp ρ k 15 = 1) := b.2.2.2.2.2.2.2.2 k hk
theorem RB.n5 (b : RB ρ) : 0 ≤ ρ 5 ∧ ρ 5 ≤ 6 := b.2.2.2.2.2.1
theorem RB.m1 (b : RB ρ) : 0 ≤ ρ 1 ∧ ρ 1 ≤ 99 := b.2.1
theorem Mod_rowsOfAll_e (m : MS h) (b : RB (rr f)) : Mod_rowsOfAll 401 (WI h f) = some (rsm (rr f) (f 402 5).toNat, WI h f) := by
  have m1 : ∀ f, MS (WI h f) := fun _ => m
  have b5 := b.n5
  rw [rr_s _ (by decide)] at b5
  have L : ∀ (n k : Nat), (k : Int) + n = f 402 5 → ∀ fuel, n < fuel → Mod_rowsOfAll_L4 fuel 401 (rsm (rr f) k) (k : Int) (WI h f) = some (rsm (rr f) (f 402 5).toNat, WI h f) := by
    intro n
    induction n with
    | zero =>
      intro k hk fuel hf
      obtain ⟨fuel, rfl⟩ : ∃ j, fuel = j + 1 := ⟨fuel - 1, by omega⟩
      rw [Mod_rowsOfAll_L4, r_1 (m1 _), a_402 (m1 _) (by decide) (by decide), hI_WI, show (5 : Int).toNat = 5 from rfl, if_pos (by omega), show (f 402 5).toNat = k by omega]
    | succ n ih =>
      intro k hk fuel hf
      obtain ⟨fuel, rfl⟩ : ∃ j, fuel = j + 1 := ⟨fuel - 1, by omega⟩
      have := ih (k + 1) (by omega) fuel (by omega)
      have r1 := rsm_b (ρ := rr f) (fun k hk => (b.k hk).2.1) k (by rw [rr_s _ (by decide)]; omega)
      have r2 := (b.k (k := k) (by rw [rr_s _ (by decide)]; omega)).2.1
      rw [rsm] at this
      rw [Mod_rowsOfAll_L4, r_1 (m1 _), a_402 (m1 _) (by decide) (by decide), hI_WI, show (5 : Int).toNat = 5 from rfl, if_neg (by omega), r_9 (m1 _), wr_id (z := 16 * (k : Int)) (by omega) (by omega), wr_id (z := 16 * (k : Int) + 13) (by omega) (by omega), a_407 (m1 _) (by omega) (by omega), hI_WI, tN (16 * (k : Int) + 13) (16 * k + 13) (by omega), ← kp_rr f, wr_id (z := rsm (rr f) k + kp (rr f) k 13) (by omega) (by omega), wr_id (z := (k : Int) + 1) (by omega) (by omega), show (k : Int) + 1 = ((k + 1 : Nat) : Int) by omega]
      exact this
  exact L (f 402 5).toNat 0 (by omega) FU (by have := FU_big; omega)
theorem Mod_leastUsed_e (m : MS h) (b : RB (rr f)) : Mod_leastUsed 401 (WI h f) = some (((lu (rr f) (f 402 5).toNat : Nat) : Int), WI h f) := by
  have m1 : ∀ f, MS (WI h f) := fun _ => m
  have b5 := b.n5
  rw [rr_s _ (by decide)] at b5
  have L : ∀ (n k : Nat), (k : Int) + n = f 402 5 → 0 < k → ∀ fuel, n < fuel → Mod_leastUsed_L4 fuel 401 ((lu (rr f) k : Nat) : Int) (k : Int) (WI h f) = some (((lu (rr f) (f 402 5).toNat : Nat) : Int), WI h f) := by
    intro n
    induction n with
    | zero =>
      intro k hk k0 fuel hf
      obtain ⟨fuel, rfl⟩ : ∃ j, fuel = j + 1 := ⟨fuel - 1, by omega⟩
      rw [Mod_leastUsed_L4, r_1 (m1 _), a_402 (m1 _) (by decide) (by decide), hI_WI, show (5 : Int).toNat = 5 from rfl, if_pos (by omega), show (f 402 5).toNat = k by omega]
    | succ n ih =>
      intro k hk k0 fuel hf
      obtain ⟨fuel, rfl⟩ : ∃ j, fuel = j + 1 := ⟨fuel - 1, by omega⟩
      have := ih (k + 1) (by omega) (by omega) fuel (by omega)
      have lb := lu_b (rr f) k k0
      rw [lu] at this
      rw [Mod_leastUsed_L4, r_1 (m1 _), a_402 (m1 _) (by decide) (by decide), hI_WI, show (5 : Int).toNat = 5 from rfl, if_neg (by omega), r_9 (m1 _), wr_id (z := 16 * (k : Int)) (by omega) (by omega), wr_id (z := 16 * (k : Int) + 14) (by omega) (by omega), a_407 (m1 _) (by omega) (by omega), r_9 (m1 _), wr_id (z := 16 * ((lu (rr f) k : Nat) : Int)) (by omega) (by omega), wr_id (z := 16 * ((lu (rr f) k : Nat) : Int) + 14) (by omega) (by omega), a_407 (m1 _) (by omega) (by omega), hI_WI, tN (16 * (k : Int) + 14) (16 * k + 14) (by omega), tN (16 * ((lu (rr f) k : Nat) : Int) + 14) (16 * lu (rr f) k + 14) (by omega), ← kp_rr f, ← kp_rr f, wr_id (z := (k : Int) + 1) (by omega) (by omega), show (k : Int) + 1 = ((k + 1 : Nat) : Int) by omega]
      by_cases e : kp (rr f) k 14 < kp (rr f) (lu (rr f) k) 14
      · rw [if_neg (by omega)]
        rw [if_pos e] at this
        exact this
      · rw [if_pos (by omega)]
        rw [if_neg e] at this
        exact this
  unfold Mod_leastUsed
  by_cases e : f 402 5 = 0
  · rw [show FU = 999999 + 1 from rfl, Mod_leastUsed_L4, r_1 (m1 _), a_402 (m1 _) (by decide) (by decide), hI_WI, show (5 : Int).toNat = 5 from rfl, if_pos (by omega), show (f 402 5).toNat = 0 by omega]; rfl
  · have := L ((f 402 5).toNat - 1) 1 (by omega) (by decide) FU (by have := FU_big; omega)
    rw [lu_1] at this
    exact this
theorem rr_sh7 {w lo hi : Nat} : rr (shF f 407 w lo hi) = shr (rr f) 60 w lo hi := by
  funext j
  unfold shr
  by_cases c : 60 ≤ j
  · obtain ⟨i, rfl⟩ : ∃ i, j = 60 + i := ⟨j - 60, by omega⟩
    rw [rr_K, show 60 + i - 60 = i by omega, rr_K, show 60 + i + w = 60 + (i + w) by omega, rr_K]
    unfold shF
    by_cases d : lo ≤ i ∧ i < hi
    · rw [if_pos ⟨rfl, d⟩, if_pos ⟨c, d⟩]
    · rw [if_neg (fun x => d x.2), if_neg (fun x => d x.2)]
  · rw [if_neg (fun x => c x.1)]
    unfold rr
    rw [shF_n _ _ _ _ _ (by decide), shF_n _ _ _ _ _ (by decide), shF_n _ _ _ _ _ (by decide)]
    by_cases d : j < 8
    · rw [if_pos d, if_pos d]
    · rw [if_neg d, if_neg d]
      by_cases d2 : j < 44
      · rw [if_pos d2, if_pos d2]
      · rw [if_neg d2, if_neg d2, if_pos (by omega), if_pos (by omega)]
theorem Mod_forgets_e (m : MS h) {k : Nat} (hk : (k : Int) < f 402 5) (h6 : f 402 5 ≤ 6) : ∃ f', Mod_forgets 401 (k : Int) (WI h f) = some ((), WI h f') ∧ RM f f' ∧ rr f' = fgRow (rr f) k ∧ ∀ a, a ≠ 402 → a ≠ 407 → f' a = f a := by
  have m1 : ∀ f, MS (WI h f) := fun _ => m
  have L : ∀ (g : Nat → Nat → Int), 0 ≤ g 402 5 → g 402 5 ≤ 5 → ∀ (n i : Nat), (i : Int) + n = 16 * g 402 5 → 16 * k ≤ i → ∀ fuel, n < fuel → Mod_forgets_L15 fuel 401 (i : Int) (WI h (shF g 407 16 (16 * k) i)) = some ((), WI h (shF g 407 16 (16 * k) (16 * (g 402 5).toNat))) := by
    intro g g0 g5 n
    induction n with
    | zero =>
      intro i hi _ fuel hf
      obtain ⟨fuel, rfl⟩ : ∃ j, fuel = j + 1 := ⟨fuel - 1, by omega⟩
      rw [Mod_forgets_L15, r_1 (m1 _), a_402 (m1 _) (by decide) (by decide), hI_WI, show (5 : Int).toNat = 5 from rfl, shF_n _ _ _ _ _ (show 402 ≠ 407 by decide), wr_id (by omega) (by omega), if_pos (by omega), show 16 * (g 402 5).toNat = i by omega]
    | succ n ih =>
      intro i hi hl fuel hf
      obtain ⟨fuel, rfl⟩ : ∃ j, fuel = j + 1 := ⟨fuel - 1, by omega⟩
      rw [Mod_forgets_L15, r_1 (m1 _), a_402 (m1 _) (by decide) (by decide), hI_WI, show (5 : Int).toNat = 5 from rfl, shF_n _ _ _ _ _ (show 402 ≠ 407 by decide), wr_id (z := 16 * g 402 5) (by omega) (by omega), if_neg (by omega), r_9 (m1 _), r_9 (m1 _), wr_id (z := (i : Int) + 16) (by omega) (by omega), a_407 (m1 _) (by omega) (by omega), hI_WI, tN ((i : Int) + 16) (i + 16) (by omega), shF_i g (by omega), w_407 (m1 _) (by omega) (by omega), tN (i : Int) i rfl, WI_sI, shF_s h g hl, wr_id (z := (i : Int) + 1) (by omega) (by omega), show (i : Int) + 1 = ((i + 1 : Nat) : Int) by omega]
      exact ih (i + 1) (by omega) (by omega) fuel (by omega)
  have g5 : up2 f 402 5 (f 402 5 - 1) 402 5 = f 402 5 - 1 := by rw [up2_e, if_pos ⟨rfl, rfl⟩]
  have R := L (up2 f 402 5 (f 402 5 - 1)) (by rw [g5]; omega) (by rw [g5]; omega) (16 * (f 402 5 - 1) - 16 * k).toNat (16 * k) (by rw [g5]; omega) (by omega) FU (by have := FU_big; omega)
  rw [shF_0 _ (by omega), g5] at R
  refine ⟨_, ?_, (RM_u f (a := 402) (k := 5) (f 402 5 - 1) (by omega)).trans (RM_sh _ (A := 407) (w := 16) (lo := 16 * k) (hi := 16 * (f 402 5 - 1).toNat) (by omega)), ?_, fun a h2 h7 => by rw [shF_n _ _ _ _ _ h7, up2_ne h2]⟩
  · unfold Mod_forgets
    rw [r_1 (m1 _), a_402 (m1 _) (by decide) (by decide), hI_WI, show (5 : Int).toNat = 5 from rfl, wr_id (z := f 402 5 - 1) (by omega) (by omega), w_402 (m1 _) (by decide) (by decide), WI_sI, show (5 : Int).toNat = 5 from rfl, wr_id (z := 16 * (k : Int)) (by omega) (by omega), show 16 * (k : Int) = ((16 * k : Nat) : Int) by omega]
    exact R
  · rw [rr_sh7, rr_u2 _ (by decide)]
    unfold fgRow
    rw [rr_s _ (show 5 < 8 by decide)]
theorem Mod_isKeptOne_e (m : MS h) (b : MB h) (k : Int) : Mod_isKeptOne 401 k h = some (bi (decide (0 ≤ k ∧ k < hI h 402 5)), h) := by
  obtain ⟨b1, b2, b3, b4, b5⟩ := b
  unfold Mod_isKeptOne
  rw [r_1 m, a_402 m (by decide) (by decide), show (5 : Int).toNat = 5 from rfl, wr_id (by omega) (by omega), Mod_in_e, bnd_some, rz_k (bi_01 _)]
  congr 3
  unfold inB
  rw [← Bool.decide_and]
  exact dec_congr (by omega)
def keptA (ρ : Nat → Int) (k w : Int) : Int := if (0 ≤ k ∧ k < ρ 5) ∧ 0 ≤ w ∧ w ≤ 15 then kp ρ k.toNat w.toNat else -2
theorem Mod_kept_e (m : MS h) (b : MB h) (k w : Int) : Mod_kept 401 k w h = some (keptA (rr (hI h)) k w, h) := by
  have b4 := b.2.2.2.1
  unfold Mod_kept keptA
  rw [c_m m, Mod_isKeptOne_e m b, bnd_some, ite_bi, Mod_in_e, bnd_some, ite_bi, rr_s _ (show 5 < 8 by decide)]
  by_cases e : 0 ≤ k ∧ k < hI h 402 5
  · rw [if_pos (decide_eq_true e)]
    by_cases e2 : 0 ≤ w ∧ w ≤ 15
    · rw [if_pos (inB_i.mpr e2), if_pos ⟨e, e2⟩, r_9 m, wr_id (z := 16 * k) (by omega) (by omega), wr_id (by omega) (by omega), a_407 m (by omega) (by omega), kp_rr, tN (16 * k + w) (16 * k.toNat + w.toNat) (by omega)]
    · rw [if_neg (fun x => e2 (inB_i.mp x)), if_neg (fun x => e2 x.2)]
  · rw [if_neg (by simpa using e), if_neg (fun x => e x.1)]
theorem Mod_forget_n (m : MS h) (mb : MB h) {k : Int} (e : ¬ (0 ≤ k ∧ k < hI h 402 5)) : Mod_forget 401 k h = some (-1, h) := by
  unfold Mod_forget
  rw [c_m m, Mod_isKeptOne_e m mb, bnd_some, ite_nbi, if_neg (by simpa using e)]
theorem Mod_forget_y (m : MS h) (mb : MB h) (h0 : 0 ≤ hI h 401 43) (h1 : hI h 401 43 ≤ 20) {k : Int} (e : 0 ≤ k ∧ k < hI h 402 5) : ∃ f', Mod_forget 401 k h = some (hI h 402 5 - 1, WI h f') ∧ AC (hI h) f' (fgRow (rr (hI h)) k.toNat) := by
  have m1 : ∀ f, MS (WI h f) := fun _ => m
  have b4 := mb.2.2.2.1
  obtain ⟨f1, x1, ka⟩ := Mod_keepsAct_e m (f := hI h) h0 h1
  rw [WI_id] at x1
  have k2 : f1 402 = hI h 402 := ka.e (by decide) (by decide)
  obtain ⟨f2, x2, rm, er, -⟩ := Mod_forgets_e (f := f1) m (k := k.toNat) (by rw [k2]; omega) (by rw [k2]; omega)
  rw [show ((k.toNat : Nat) : Int) = k by omega] at x2
  refine ⟨f2, ?_, AC_of ka rm (fun j _ => by rw [er, ka.row])⟩
  have e5 : f2 402 5 = hI h 402 5 - 1 := by
    have : rr f2 5 = fgRow (rr f1) k.toNat 5 := by rw [er]
    rw [rr_s _ (by decide)] at this
    rw [this]
    unfold fgRow shr u1
    rw [if_neg (by omega), if_pos rfl, rr_s _ (by decide), k2]
  unfold Mod_forget
  rw [c_m m, Mod_isKeptOne_e m mb, bnd_some, ite_nbi, if_pos (decide_eq_true e), c_m m, x1, bnd_some, c_m (m1 _), x2, bnd_some, r_1 (m1 _), a_402 (m1 _) (by decide) (by decide), hI_WI, show (5 : Int).toNat = 5 from rfl, e5]
/-- the bounds of another row -/
theorem MB_of (mb : MB h) (b : RB (rr f')) (e0 : f' 401 10 = hI h 401 10) (e1 : ∀ a, 408 ≤ a → a ≤ 414 → f' a = hI h a) : MB (WI h f') := by
  obtain ⟨-, -, b3, -, b5⟩ := mb
  obtain ⟨-, -, c2, c3, -, c5, -⟩ := b
  rw [rr_s _ (by decide)] at c2 c3 c5
  unfold MB
  rw [hI_WI, e0, e1 408 (by decide) (by decide), e1 409 (by decide) (by decide), e1 410 (by decide) (by decide), e1 413 (by decide) (by decide), e1 414 (by decide) (by decide)]
  exact ⟨c2, c3, b3, c5, b5⟩
theorem KA.mb (k : KA (hI h) f1) (mb : MB h) (b : RB (rr (hI h))) : MB (WI h f1) :=
  MB_of mb (by rw [k.row]; exact b) (k.1 401 10 (by decide) (by omega)) (fun a h1 h2 => k.e (by omega) (by omega))
/-- a kept one made anew -/
def rfR (h : AH) (k : Nat) : Int := (rowsF (kp (rr (hI h)) k) (num h) (nR h) (nS h) : Nat)
def rfM (h : AH) (k : Nat) : Int := (makeF (kp (rr (hI h)) k) (num h) (nR h) (nS h) : Nat)
def rfOk (ρ : Nat → Int) (k : Int) : Prop := (0 ≤ k ∧ k < ρ 5) ∧ kp ρ k.toNat 15 ≠ 0
def rfIn (h : AH) (k : Nat) : Prop := rsm (rr (hI h)) (hI h 402 5).toNat - kp (rr (hI h)) k 13 + rfR h k ≤ hI h 402 1
def rfRow (h : AH) (k : Nat) : Nat → Int := u1 (u1 (u1 (rr (hI h)) (60 + (16 * k + 13)) (rfR h k)) (60 + (16 * k + 15)) 0) 6 (wr (hI h 402 6 + rfM h k))
theorem Mod_refresh_n (m : MS h) (mb : MB h) {k : Int} (e : ¬ rfOk (rr (hI h)) k) : Mod_refresh 401 k h = some (-1, h) := by
  have b4 := mb.2.2.2.1
  unfold Mod_refresh rfOk at *
  rw [rr_s _ (show 5 < 8 by decide)] at e
  rw [c_m m, Mod_isKeptOne_e m mb, bnd_some, ite_bi]
  by_cases e1 : 0 ≤ k ∧ k < hI h 402 5
  · rw [if_pos (decide_eq_true e1), r_9 m, wr_id (z := 16 * k) (by omega) (by omega), wr_id (by omega) (by omega), a_407 m (by omega) (by omega), tN (16 * k + 15) (16 * k.toNat + 15) (by omega)]
    rw [kp_rr] at e
    rw [if_neg (fun x => e ⟨e1, x⟩)]
  · rw [if_neg (by simpa using e1)]
theorem rowsF_e (h : AH) (π : Nat → Int) : (rowsF π (num h) (hI h 402 2).toNat (hI h 402 3).toNat : Nat) = rowsF π (num h) (nR h) (nS h) := rfl
theorem rfR_b (mb : MB h) (k : Nat) : 0 ≤ rfR h k ∧ rfR h k ≤ 96 := by
  have := nRS mb
  have := rowsF_b (kp (rr (hI h)) k) (num h) this.1 this.2
  unfold rfR; omega
theorem rfM_b (mb : MB h) (k : Nat) : 0 ≤ rfM h k ∧ rfM h k ≤ 116 := by
  have := nRS mb
  have := makeF_b (kp (rr (hI h)) k) (num h) this.1 this.2
  unfold rfM; omega
theorem Mod_refresh_y (m : MS h) (mb : MB h) (b : RB (rr (hI h))) (h0 : 0 ≤ hI h 401 43) (h1 : hI h 401 43 ≤ 20) {k : Int} (e : rfOk (rr (hI h)) k) : (rfIn h k.toNat → ∃ f', Mod_refresh 401 k h = some (rfR h k.toNat, WI h f') ∧ AC (hI h) f' (rfRow h k.toNat)) ∧ (¬ rfIn h k.toNat → ∃ f', Mod_refresh 401 k h = some (-2, WI h f') ∧ AC (hI h) f' (fgRow (rr (hI h)) k.toNat)) := by
  have m1 : ∀ f, MS (WI h f) := fun _ => m
  have b4 := mb.2.2.2.1
  obtain ⟨f1, x1, ka⟩ := Mod_keepsAct_e m (f := hI h) h0 h1
  rw [WI_id] at x1
  have k2 : f1 402 = hI h 402 := ka.e (by decide) (by decide)
  have k3 : f1 403 = hI h 403 := ka.e (by decide) (by decide)
  have k4 : f1 404 = hI h 404 := ka.e (by decide) (by decide)
  have k7 : f1 407 = hI h 407 := ka.e (by decide) (by decide)
  unfold rfOk at e
  rw [rr_s _ (show 5 < 8 by decide)] at e
  obtain ⟨e1, e2⟩ := e
  obtain ⟨K, rfl⟩ : ∃ K : Nat, k = (K : Int) := ⟨k.toNat, by omega⟩
  rw [show ((K : Nat) : Int).toNat = K from rfl] at *
  have kb := b.k (k := K) (by rw [rr_s _ (by decide)]; omega)
  have mb1 := ka.mb mb b
  have e13 : ∀ g : Nat → Nat → Int, (∀ u, u < 13 → g 407 (16 * K + u) = hI h 407 (16 * K + u)) → eq13 (pf (WI h g) 407 (16 * K)) (kp (rr (hI h)) K) := fun g hg u hu => by
    show g 407 (16 * K + u) = _
    rw [kp_rr, hg u hu]
  have er : Mod_rowsNow 401 407 ((16 * K : Nat) : Int) (WI h f1) = some (rfR h K, WI h f1) := by
    have e0 := e13 f1 (fun u _ => by rw [k7])
    rw [Mod_rowsNow_e (m1 _) mb1 ((m1 _).K 5 rfl).2 (by omega) (by decide) (okP_c (fun j hj => (e0 j hj).symm) kb.1), rowsF_c e0, hI_WI, k2]
    unfold rfR
    rw [num_f, show numf f1 = num h by rw [num_h]; funext x y; unfold numf; rw [k3, k4]]
  have es : Mod_rowsOfAll 401 (WI h f1) = some (rsm (rr (hI h)) (hI h 402 5).toNat, WI h f1) := by
    rw [Mod_rowsOfAll_e m (by rw [ka.row]; exact b), ka.row, k2]
  have rb := rfR_b mb K
  have rm := rfM_b mb K
  have sb := rsm_b (ρ := rr (hI h)) (fun k hk => (b.k hk).2.1) (hI h 402 5).toNat (by rw [rr_s _ (by decide)]; omega)
  have kb13 := kb.2.1
  have st : hI h 407 (16 * K + 15) ≠ 0 := by rw [kp_rr] at e2; exact e2
  have main : ∀ o, (if rsm (rr (hI h)) (hI h 402 5).toNat - kp (rr (hI h)) K 13 + rfR h K ≤ hI h 402 1 then (gR (WI h f1) 13 401 9 fun r20 => wI (WI h f1) 21 r20 (wr ((wr (16 * (K : Int))) + 13)) (rfR h K) fun h21 => gR h21 13 401 9 fun r22 => wI h21 21 r22 (wr ((wr (16 * (K : Int))) + 15)) 0 fun h23 => gR h23 13 401 1 fun r24 => aI h23 21 r24 6 fun x25 => gR h23 13 401 9 fun r26 => rc h23 13 401 <| bnd (Mod_makeNow 401 r26 (wr (16 * (K : Int))) h23) fun x28 h27 => wI h27 21 r24 6 (wr (x25 + x28)) fun h30 => some (rfR h K, h30)) else (rc (WI h f1) 13 401 <| bnd (Mod_forgets 401 (K : Int) (WI h f1)) fun _ h31 => some ((-2), h31))) = o → Mod_refresh 401 (K : Int) h = o := fun o ho => by
    rw [← ho]
    unfold Mod_refresh
    rw [c_m m, Mod_isKeptOne_e m mb, bnd_some, ite_bi, if_pos (decide_eq_true e1), r_9 m, wr_id (z := 16 * (K : Int)) (by omega) (by omega), wr_id (z := 16 * (K : Int) + 15) (by omega) (by omega), a_407 m (by omega) (by omega), tN (16 * (K : Int) + 15) (16 * K + 15) (by omega), if_pos st, c_m m, x1, bnd_some, r_9 (m1 _), c_m (m1 _), show 16 * (K : Int) = ((16 * K : Nat) : Int) by omega, er, bnd_some, c_m (m1 _), es, bnd_some, r_9 (m1 _), wr_id (z := ((16 * K : Nat) : Int) + 13) (by omega) (by omega), a_407 (m1 _) (by omega) (by omega), tN (((16 * K : Nat) : Int) + 13) (16 * K + 13) (by omega), hI_WI, k7, ← kp_rr (hI h), r_1 (m1 _), a_402 (m1 _) (by decide) (by decide), hI_WI, k2, show (1 : Int).toNat = 1 from rfl, wr_id (z := rsm (rr (hI h)) (hI h 402 5).toNat - kp (rr (hI h)) K 13) (by omega) (by omega), wr_id (z := rsm (rr (hI h)) (hI h 402 5).toNat - kp (rr (hI h)) K 13 + rfR h K) (by omega) (by omega)]
  refine ⟨fun i => ?_, fun i => ?_⟩
  · unfold rfIn at i
    rw [if_pos i, wr_id (z := 16 * (K : Int)) (by omega) (by omega), wr_id (z := 16 * (K : Int) + 13) (by omega) (by omega), wr_id (z := 16 * (K : Int) + 15) (by omega) (by omega), r_9 (m1 _), w_407 (m1 _) (by omega) (by omega), WI_sI, r_9 (m1 _), w_407 (m1 _) (by omega) (by omega), WI_sI, r_1 (m1 _), a_402 (m1 _) (by decide) (by decide), hI_WI, r_9 (m1 _), c_m (m1 _), tN (16 * (K : Int) + 13) (16 * K + 13) (by omega), tN (16 * (K : Int) + 15) (16 * K + 15) (by omega), show 16 * (K : Int) = ((16 * K : Nat) : Int) by omega] at main
    generalize hf3 : up2 (up2 f1 407 (16 * K + 13) (rfR h K)) 407 (16 * K + 15) 0 = f3 at main
    have r3 : rr f3 = u1 (u1 (rr (hI h)) (60 + (16 * K + 13)) (rfR h K)) (60 + (16 * K + 15)) 0 := by rw [← hf3, rr_u7, rr_u7, ka.row]
    have mb3 : MB (WI h f3) := by
      obtain ⟨y1, y2, y3, y4, y5⟩ := mb1
      have z : ∀ a, a ≠ 407 → f3 a = f1 a := fun a ha => by rw [← hf3, up2_ne ha, up2_ne ha]
      unfold MB at *
      rw [hI_WI] at *
      rw [z 402 (by decide), z 401 (by decide), z 408 (by decide), z 409 (by decide), z 410 (by decide), z 413 (by decide), z 414 (by decide)]
      exact ⟨y1, y2, y3, y4, y5⟩
    have z2 : f3 402 = hI h 402 := by rw [← hf3, up2_ne (by decide), up2_ne (by decide), k2]
    have z3 : f3 403 = hI h 403 := by rw [← hf3, up2_ne (by decide), up2_ne (by decide), k3]
    have z4 : f3 404 = hI h 404 := by rw [← hf3, up2_ne (by decide), up2_ne (by decide), k4]
    have e0 := e13 f3 (fun u hu => by rw [← hf3, up2_e, if_neg (by omega), up2_e, if_neg (by omega), k7])
    have em : Mod_makeNow 401 407 ((16 * K : Nat) : Int) (WI h f3) = some (rfM h K, WI h f3) := by
      rw [Mod_makeNow_e (m1 _) mb3 ((m1 _).K 5 rfl).2 (by omega) (by decide) (okP_c (fun j hj => (e0 j hj).symm) kb.1), makeF_c e0, hI_WI, z2]
      unfold rfM
      rw [num_f, show numf f3 = num h by rw [num_h]; funext x y; unfold numf; rw [z3, z4]]
    rw [em, bnd_some, w_402 (m1 _) (by decide) (by decide), WI_sI, z2, show (6 : Int).toNat = 6 from rfl] at main
    refine ⟨_, main _ rfl, AC_of ka ((RM_u f1 (a := 407) (k := 16 * K + 13) (rfR h K) (by omega)).trans ((RM_u _ (a := 407) (k := 16 * K + 15) 0 (by omega)).trans ?_)) (fun j _ => ?_)⟩
    · rw [hf3]; exact RM_u _ _ (by omega)
    · rw [rr_u2 _ (by decide), r3]; rfl
  · unfold rfIn at i
    obtain ⟨f2, x2, rm2, er2, -⟩ := Mod_forgets_e (f := f1) m (k := K) (by rw [k2]; omega) (by rw [k2]; omega)
    rw [if_neg i, c_m (m1 _), x2, bnd_some] at main
    exact ⟨f2, main _ rfl, AC_of ka rm2 (fun j _ => by rw [er2, ka.row])⟩
end R20
