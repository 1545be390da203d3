/-! Level 2: drift, all of it -/
section R26
variable {h H : AH} {f f' f0 f1 f2 g : Nat → Nat → Int} {ρ ρ' : Nat → Int}
theorem RB_spo (b : RB ρ) (t row : Int) : RB (spo ρ t row) := by
  obtain ⟨b0, b1, b2, b3, b4, b5, b6, b7, b8⟩ := b
  have z : ∀ j, (60 ≤ j → (j - 60) % 16 ≠ 15) → spo ρ t row j = ρ j := fun j hj => if_neg (fun x => hj x.1 x.2.2.1)
  have zk : ∀ k u, u < 15 → kp (spo ρ t row) k u = kp ρ k u := fun k u hu => z _ (by omega)
  unfold RB
  rw [z 0 (by omega), z 1 (by omega), z 2 (by omega), z 3 (by omega), z 4 (by omega), z 5 (by omega)]
  refine ⟨b0, b1, b2, b3, b4, b5, fun j hj => by rw [z _ (by omega)]; exact b6 j hj, fun j hj => by rw [z _ (by omega)]; exact b7 j hj, fun k hk => ?_⟩
  rw [zk k 13 (by decide)]
  refine ⟨okP_3 (zk k 0 (by decide)).symm (zk k 1 (by decide)).symm (zk k 2 (by decide)).symm (b8 k hk).1, (b8 k hk).2.1, ?_⟩
  have := (b8 k hk).2.2
  unfold kp at *
  show spo ρ t row (60 + (16 * k + 15)) = 0 ∨ spo ρ t row (60 + (16 * k + 15)) = 1
  unfold spo
  split
  · exact Or.inr rfl
  · exact this
theorem RB_cell (b : RB ρ) {k : Nat} (h8 : 8 ≤ k) (h60 : k < 60) {v : Int} (v0 : 0 ≤ v) (v9 : v ≤ 9) : RB (u1 ρ k v) := by
  obtain ⟨b0, b1, b2, b3, b4, b5, b6, b7, b8⟩ := b
  have z : ∀ j, j ≠ k → u1 ρ k v j = ρ j := fun j hj => if_neg hj
  have zk : ∀ i u, kp (u1 ρ k v) i u = kp ρ i u := fun i u => z _ (by omega)
  have c : ∀ j, (0 ≤ ρ j ∧ ρ j ≤ 9) → 0 ≤ u1 ρ k v j ∧ u1 ρ k v j ≤ 9 := fun j hj => by unfold u1; split <;> omega
  unfold RB
  rw [z 0 (by omega), z 1 (by omega), z 2 (by omega), z 3 (by omega), z 4 (by omega), z 5 (by omega)]
  refine ⟨b0, b1, b2, b3, b4, b5, fun j hj => c _ (b6 j hj), fun j hj => c _ (b7 j hj), fun i hi => ?_⟩
  rw [zk, zk]
  exact ⟨okP_3 (zk i 0).symm (zk i 1).symm (zk i 2).symm (b8 i hi).1, (b8 i hi).2⟩
theorem RB_chg (b : RB ρ) {t row col v : Int} (ht : t = 0 ∨ t = 1) (hr : 0 ≤ row) (hr2 : row < if t = 0 then 12 else 8) (hc : if t = 0 then 0 ≤ col ∧ col < 3 else 3 ≤ col ∧ col < 5) (v0 : 0 ≤ v) (v9 : v ≤ 9) : RB (chgRow ρ t row col v) := by
  unfold chgRow cix
  rcases ht with rfl | rfl
  · rw [if_pos rfl] at *
    exact RB_spo (RB_cell (RB_spo b _ _) (by omega) (by omega) v0 v9) _ _
  · rw [if_neg (show ¬ (1 : Int) = 0 by decide)] at *
    exact RB_spo (RB_cell (RB_spo b _ _) (by omega) (by omega) v0 v9) _ _
theorem up2_up2 (f : Nat → Nat → Int) (a k : Nat) (x y : Int) : up2 (up2 f a k x) a k y = up2 f a k y := by
  funext b j; simp only [up2_e]; split <;> rfl
def inrw (a i : Nat) : Prop := (a = 402 ∧ i < 8) ∨ (a = 403 ∧ i < 36) ∨ (a = 404 ∧ i < 16) ∨ (a = 407 ∧ i < 96)
/-- the same but for its row and the draw -/
def OR (f0 f : Nat → Nat → Int) : Prop := ∀ a i, ¬ inrw a i → ¬ (a = 402 ∧ i = 8) → f a i = f0 a i
/-- what holds of a drifting state -/
def DI (h : AH) (f0 f : Nat → Nat → Int) : Prop := OR f0 f ∧ MB (WI h f) ∧ RB (rr f) ∧ (0 ≤ f 402 8 ∧ f 402 8 < 2147483648)
theorem rr_x (f : Nat → Nat → Int) (x : Int) : rr (up2 f 402 8 x) = rr f := by
  funext j; unfold rr; simp only [up2_e]
  by_cases c : j < 8
  · rw [if_pos c, if_pos c, if_neg (by omega)]
  · rw [if_neg c, if_neg c]
    by_cases c2 : j < 44
    · rw [if_pos c2, if_pos c2, if_neg (by omega)]
    · rw [if_neg c2, if_neg c2]
      by_cases c3 : j < 60
      · rw [if_pos c3, if_pos c3, if_neg (by omega)]
      · rw [if_neg c3, if_neg c3, if_neg (by omega)]
theorem DI.x (d : DI h f0 f) {x : Int} (h0 : 0 ≤ x) (h1 : x < 2147483648) : DI h f0 (up2 f 402 8 x) := by
  obtain ⟨d1, d2, d3, d4⟩ := d
  refine ⟨fun a i n1 n2 => by rw [up2_e, if_neg n2]; exact d1 a i n1 n2, ?_, by rw [rr_x]; exact d3, by rw [up2_e, if_pos ⟨rfl, rfl⟩]; exact ⟨h0, h1⟩⟩
  have : MB (WI (WI h f) (up2 f 402 8 x)) := MB_of d2 (by rw [rr_x]; exact d3) (by rw [up2_ne (by decide)]; rfl) (fun a h1 h2 => by rw [up2_ne (by omega)]; rfl)
  exact this
theorem DI.ch (d : DI h f0 f) (m : MS h) {row col v : Int} (hr : 0 ≤ row) (hr2 : row < 12) (hc0 : 0 ≤ col) (hc3 : col < 3) (v0 : 0 ≤ v) (v9 : v ≤ 9) : DI h f0 (chF f row col v) := by
  obtain ⟨d1, d2, d3, d4⟩ := d
  have b5 := d3.n5
  rw [rr_s _ (by decide)] at b5
  obtain ⟨-, rm, er⟩ := Mod_changes_x (f := f) m (v := v) hr hr2 hc0 hc3 b5.1 b5.2 d3.st
  have rb : RB (rr (chF f row col v)) := by rw [er]; exact RB_chg d3 (Or.inl rfl) hr (by simpa using hr2) (by simpa using ⟨hc0, hc3⟩) v0 v9
  refine ⟨fun a i n1 n2 => ?_, ?_, rb, by rw [rm.2.2.2.2]; exact d4⟩
  · rw [← d1 a i n1 n2]
    unfold chF stF
    rw [if_neg (by unfold inrw at n1; intro x; omega), up2_e, if_neg (by unfold inrw at n1; omega), if_neg (by unfold inrw at n1; intro x; omega)]
  · have : MB (WI (WI h f) (chF f row col v)) := MB_of d2 rb (by rw [rm.2.1]; rfl) (fun a h1 h2 => by rw [rm.1 a (by unfold scrA; simp; omega) (by omega) (by omega) (by omega) (by omega)]; rfl)
    exact this
theorem DI.dv (d : DI h f0 f) (m : MS h) (p : Int) : DI h f0 (dvF f p) := by
  have b1 := dr_b (f 402 8)
  have b2 := dr_b (dr (f 402 8))
  have b3 := dr_b (dr (dr (f 402 8)))
  have b4 := dr_b (dr (dr (dr (f 402 8))))
  have n2 := d.2.2.1.2.2.1
  rw [rr_s _ (by decide)] at n2
  unfold dvF
  split
  · rename_i c
    split
    · exact d.x b4.1 b4.2
    · have e1 := Int.emod_nonneg (dr (dr (f 402 8)) / 65536) (show f 402 2 ≠ 0 by omega)
      have e2 := Int.emod_lt_of_pos (dr (dr (f 402 8)) / 65536) c.2
      exact (d.x b4.1 b4.2).ch m e1 (by omega) (by omega) (by omega) (by omega) (by omega)
  · exact d.x b1.1 b1.2
/-- what the batch costs in a state -/
def cF (h : AH) (f : Nat → Nat → Int) : Int := bH (WI h f) (kT (WI h f)) (nK (WI h f))
theorem cF_b (mb : MB (WI h f)) (b : RB (rr f)) (m : MS h) : 0 ≤ cF h f ∧ cF h f ≤ 96000 := by
  have m1 : MS (WI h f) := m
  obtain ⟨H, -, rd⟩ := Mod_batch_e m1 mb (RB.tb (h := WI h f) b)
  exact rd.b mb
def stl (ρ : Nat → Int) : Nat → Int
  | 0 => 0
  | k + 1 => stl ρ k + kp ρ k 15
theorem stl_b (b : RB ρ) : ∀ n : Nat, (n : Int) ≤ ρ 5 → 0 ≤ stl ρ n ∧ stl ρ n ≤ n
  | 0, _ => by rw [stl]; omega
  | n + 1, hn => by
    have := stl_b b n (by omega)
    have := (b.k (k := n) (by omega)).2.2
    rw [stl]; omega
theorem Mod_staleMany_e (m : MS h) (b : RB (rr f)) : Mod_staleMany 401 (WI h f) = some (stl (rr f) (f 402 5).toNat, WI h f) := by
  have m1 : ∀ f, MS (WI h f) := fun _ => m
  have b5 := b.n5
  rw [rr_s _ (by decide)] at b5
  have L : ∀ (n k : Nat), (k : Int) + n = f 402 5 → ∀ fuel, n < fuel → Mod_staleMany_L4 fuel 401 (stl (rr f) k) (k : Int) (WI h f) = some (stl (rr f) (f 402 5).toNat, WI h f) := by
    intro n
    induction n with
    | zero =>
      intro k hk fuel hf
      obtain ⟨fuel, rfl⟩ : ∃ j, fuel = j + 1 := ⟨fuel - 1, by omega⟩
      rw [Mod_staleMany_L4, r_1 (m1 _), a_402 (m1 _) (by decide) (by decide), hI_WI, show (5 : Int).toNat = 5 from rfl, if_pos (by omega), show (f 402 5).toNat = k by omega]
    | succ n ih =>
      intro k hk fuel hf
      obtain ⟨fuel, rfl⟩ : ∃ j, fuel = j + 1 := ⟨fuel - 1, by omega⟩
      have := ih (k + 1) (by omega) fuel (by omega)
      have r1 := stl_b b k (by rw [rr_s _ (by decide)]; omega)
      have r2 := (b.k (k := k) (by rw [rr_s _ (by decide)]; omega)).2.2
      rw [stl] at this
      rw [Mod_staleMany_L4, r_1 (m1 _), a_402 (m1 _) (by decide) (by decide), hI_WI, show (5 : Int).toNat = 5 from rfl, if_neg (by omega), r_9 (m1 _), wr_id (z := 16 * (k : Int)) (by omega) (by omega), wr_id (z := 16 * (k : Int) + 15) (by omega) (by omega), a_407 (m1 _) (by omega) (by omega), hI_WI, tN (16 * (k : Int) + 15) (16 * k + 15) (by omega), ← kp_rr f, wr_id (z := stl (rr f) k + kp (rr f) k 15) (by omega) (by omega), wr_id (z := (k : Int) + 1) (by omega) (by omega), show (k : Int) + 1 = ((k + 1 : Nat) : Int) by omega]
      exact this
  exact L (f 402 5).toNat 0 (by omega) FU (by have := FU_big; omega)
theorem drift_s (m : MS h) (di : DI h f0 f) (d : DV h f H) {M N P W was sum t : Int} {k F : Nat} (hk : (k : Int) < N) (hk2 : k < 100) (s0 : 0 ≤ sum) (s1 : sum ≤ 100000000) (K : Nat → Int → Int → Int → Int → Int → Int → Int → AH → Option (Int × AH)) : ∃ H', DV h (dvF f P) H' ∧ Mod_drift_L87 K (F + 1) 401 M N P W was sum t (k : Int) H = Mod_drift_L87 K F 401 M N P W was (if W = 0 then sum + cF h (dvF f P) else sum) t ((k + 1 : Nat) : Int) H' := by
  have di' := di.dv m P
  obtain ⟨-, mb', rb', -⟩ := di'
  have cb := cF_b mb' rb' m
  obtain ⟨-, mb, rb, x0, x1⟩ := di
  have n2 := rb.2.2.1
  rw [rr_s _ (by decide)] at n2
  have m1 : ∀ f, MS (WI h f) := fun _ => m
  have e8 : hI H 402 8 = f 402 8 := d.2.2.2.2.2.1 8 (by decide) (by decide) (by decide)
  have e2 : hI H 402 2 = f 402 2 := d.2.2.2.2.2.1 2 (by decide) (by decide) (by decide)
  have e5 : hI H 402 5 = f 402 5 := d.2.2.2.2.2.1 5 (by decide) (by decide) (by decide)
  have e3 : hI H 403 = f 403 := d.2.2.2.2.1 403 (by decide) (by decide) (by decide)
  have e4 : hI H 404 = f 404 := d.2.2.2.2.1 404 (by decide) (by decide) (by decide)
  have rbH := d.rb rb
  have fin : ∀ H1, DV h (dvF f P) H1 → ∃ H', DV h (dvF f P) H' ∧ Mod_drift_L116 K (Mod_drift_L87 K F) 401 M N P W was sum t (k : Int) H1 = Mod_drift_L87 K F 401 M N P W was (if W = 0 then sum + cF h (dvF f P) else sum) t ((k + 1 : Nat) : Int) H' := fun H1 d1 => by
    obtain ⟨H', x, d'⟩ := DV_run d1 m mb' rb'
    refine ⟨H', d', ?_⟩
    unfold Mod_drift_L116
    rw [c_m (d1.ms m), x, bnd_some, wr_id (z := (k : Int) + 1) (by omega) (by omega), show (k : Int) + 1 = ((k + 1 : Nat) : Int) by omega]
    rw [show bH (WI h (dvF f P)) (kT (WI h (dvF f P))) (nK (WI h (dvF f P))) = cF h (dvF f P) from rfl, wr_id (z := sum + 0) (by omega) (by omega), wr_id (z := sum + cF h (dvF f P)) (by omega) (by omega), Int.add_zero]
    by_cases c : W = 0
    · rw [if_neg (by simpa using c), if_pos c]
    · rw [if_pos c, if_neg c]
  rw [Mod_drift_L87, if_neg (by omega), c_m (d.ms m), d.eta, Mod_draws_e m (by rw [e8]; exact x0) (by rw [e8]; exact x1) (by decide) (by decide), bnd_some, r_1 (m1 _), a_402 (m1 _) (by decide) (by decide), hI_WI, show (2 : Int).toNat = 2 from rfl, show up2 (hI H) 402 8 (dr (hI H 402 8)) 402 2 = f 402 2 by rw [up2_e, if_neg (by omega), e2], e8]
  have b1 := dr_b (f 402 8)
  have b2 := dr_b (dr (f 402 8))
  have b3 := dr_b (dr (dr (f 402 8)))
  have b4 := dr_b (dr (dr (dr (f 402 8))))
  by_cases c1 : dr (f 402 8) / 65536 % 100 < P ∧ 0 < f 402 2
  · rw [if_neg (by omega), if_neg (by omega), c_m (m1 _)]
    have z1 := Int.emod_nonneg (dr (dr (f 402 8)) / 65536) (show f 402 2 ≠ 0 by omega)
    have z2 := Int.emod_lt_of_pos (dr (dr (f 402 8)) / 65536) c1.2
    have z3 := Int.emod_nonneg (dr (dr (dr (f 402 8))) / 65536) (show (3 : Int) ≠ 0 by decide)
    have z4 := Int.emod_lt_of_pos (dr (dr (dr (f 402 8))) / 65536) (show (0 : Int) < 3 by decide)
    have dv : dvF f P = if numf f (dr (dr (f 402 8)) / 65536 % f 402 2) (dr (dr (dr (f 402 8))) / 65536 % 3) = dr (dr (dr (dr (f 402 8)))) / 65536 % 10 then up2 f 402 8 (dr (dr (dr (dr (f 402 8)))))
     else chF (up2 f 402 8 (dr (dr (dr (dr (f 402 8)))))) (dr (dr (f 402 8)) / 65536 % f 402 2) (dr (dr (dr (f 402 8))) / 65536 % 3) (dr (dr (dr (dr (f 402 8)))) / 65536 % 10) := if_pos c1
    generalize hrow : dr (dr (f 402 8)) / 65536 % f 402 2 = row at *
    generalize hcol : dr (dr (dr (f 402 8))) / 65536 % 3 = col at *
    have u8 : ∀ x, up2 (hI H) 402 8 x 402 8 = x := fun x => by rw [up2_e, if_pos ⟨rfl, rfl⟩]
    have D : Mod_drifts 401 (WI h (up2 (hI H) 402 8 (dr (f 402 8)))) = some ((), if numf f row col = dr (dr (dr (dr (f 402 8)))) / 65536 % 10 then WI h (up2 (hI H) 402 8 (dr (dr (dr (dr (f 402 8)))))) else WI h (chF (up2 (hI H) 402 8 (dr (dr (dr (dr (f 402 8)))))) row col (dr (dr (dr (dr (f 402 8)))) / 65536 % 10))) := by
      unfold Mod_drifts
      rw [r_1 (m1 _), a_402 (m1 _) (by decide) (by decide), hI_WI, show (2 : Int).toNat = 2 from rfl, show up2 (hI H) 402 8 (dr (f 402 8)) 402 2 = f 402 2 by rw [up2_e, if_neg (by omega), e2], c_m (m1 _), Mod_draws_e m (by rw [u8]; exact b1.1) (by rw [u8]; exact b1.2) c1.2 (by omega), bnd_some, u8, up2_up2, hrow, c_m (m1 _), Mod_draws_e m (by rw [u8]; exact b2.1) (by rw [u8]; exact b2.2) (by decide) (by decide), bnd_some, u8, up2_up2, hcol, c_m (m1 _), Mod_draws_e m (by rw [u8]; exact b3.1) (by rw [u8]; exact b3.2) (by decide) (by decide), bnd_some, u8, up2_up2, c_m (m1 _), Mod_numR (m1 _) z1 (by omega) z3 z4, bnd_some, num_f]
      have en : numf (up2 (hI H) 402 8 (dr (dr (dr (dr (f 402 8)))))) row col = numf f row col := by unfold numf; rw [up2_ne (by decide), up2_ne (by decide), e3, e4]
      rw [en]
      by_cases c2 : numf f row col = dr (dr (dr (dr (f 402 8)))) / 65536 % 10
      · rw [if_pos c2, if_pos c2]
      · have rbu : RB (rr (up2 (hI H) 402 8 (dr (dr (dr (dr (f 402 8))))))) := by rw [rr_x]; exact rbH
        have b5 := rbu.n5
        rw [rr_s _ (by decide)] at b5
        rw [if_neg c2, if_neg c2, c_m (m1 _), (Mod_changes_x m z1 (by omega) z3 z4 b5.1 b5.2 rbu.st).1, bnd_some]
    rw [D, bnd_some]
    refine fin _ ?_
    rw [dv]
    have dx := DV_x d (dr (dr (dr (dr (f 402 8)))))
    split
    · exact dx
    · have := DV_ch dx row col (dr (dr (dr (dr (f 402 8)))) / 65536 % 10)
      exact this
  · have dv : dvF f P = up2 f 402 8 (dr (f 402 8)) := if_neg c1
    have dx := DV_x d (dr (f 402 8))
    rw [← dv] at dx
    by_cases c2 : P ≤ dr (f 402 8) / 65536 % 100
    · rw [if_pos c2]; exact fin _ dx
    · rw [if_neg c2, if_pos (by omega)]; exact fin _ dx
/-- n steps -/
def dvN (h : AH) (p : Int) : Nat → (Nat → Nat → Int) → Int → (Nat → Nat → Int) × Int
  | 0, f, s => (f, s)
  | n + 1, f, s => dvN h p n (dvF f p) (s + cF h (dvF f p))
theorem drift_n (m : MS h) {M P W was t : Int} {N : Nat} (hN1 : N ≤ 30) (K : Nat → Int → Int → Int → Int → Int → Int → Int → AH → Option (Int × AH)) : ∀ (n k F : Nat) (f : Nat → Nat → Int) (H : AH) (sum c : Int), k + n = N → n < F → DI h f0 f → DV h f H → 0 ≤ sum → sum + 96000 * n ≤ 100000000 → (W = 0 → sum = c) → 0 ≤ c → ∃ H', DV h (dvN h P n f c).1 H' ∧ DI h f0 (dvN h P n f c).1 ∧ 0 ≤ (dvN h P n f c).2 ∧ (dvN h P n f c).2 ≤ c + 96000 * n ∧ Mod_drift_L87 K F 401 M (N : Int) P W was sum t (k : Int) H = Mod_drift_L87 K (F - n) 401 M (N : Int) P W was (if W = 0 then (dvN h P n f c).2 else sum) t (N : Int) H'
  | 0, k, F, f, H, sum, c, hk, hF, di, d, s0, s1, e, c0 => by
    refine ⟨H, d, di, c0, by show c ≤ _; omega, ?_⟩
    rw [show k = N by omega, Nat.sub_zero]
    congr 1
    by_cases w : W = 0
    · rw [if_pos w]; exact e w
    · rw [if_neg w]
  | n + 1, k, F + 1, f, H, sum, c, hk, hF, di, d, s0, s1, e, c0 => by
    have di' := di.dv m P
    have cb := cF_b di'.2.1 di'.2.2.1 m
    obtain ⟨H1, d1, e1⟩ := drift_s m di d (M := M) (N := (N : Int)) (P := P) (W := W) (was := was) (sum := sum) (t := t) (k := k) (F := F) (by omega) (by omega) s0 (by omega) K
    obtain ⟨H2, d2, di2, y0, y1, e2⟩ := drift_n m (M := M) (P := P) (W := W) (was := was) (t := t) hN1 K n (k + 1) F (dvF f P) H1 (if W = 0 then sum + cF h (dvF f P) else sum) (c + cF h (dvF f P)) (by omega) (by omega) di' d1 (by split <;> omega) (by split <;> omega) (fun w => by rw [if_pos w, e w]) (by omega)
    refine ⟨H2, d2, di2, y0, by rw [dvN]; omega, ?_⟩
    rw [e1, e2, show F + 1 - (n + 1) = F - n by omega, dvN]
    congr 1
    by_cases w : W = 0
    · rw [if_pos w, if_pos w]
    · rw [if_neg w, if_neg w, if_neg w]
/-- m times -/
def dvM (h : AH) (f0 : Nat → Nat → Int) (p : Int) (n : Nat) : Nat → Int → Int → Int → Int × Int
  | 0, _, c, s => (c, s)
  | m + 1, x, c, s => dvM h f0 p n m ((dvN h p n (up2 f0 402 8 x) c).1 402 8) (dvN h p n (up2 f0 402 8 x) c).2 (s + stl (rr (dvN h p n (up2 f0 402 8 x) c).1) ((dvN h p n (up2 f0 402 8 x) c).1 402 5).toNat)
theorem stl_c {σ : Nat → Int} : ∀ {n : Nat}, (∀ k, k < n → kp ρ k 15 = kp σ k 15) → stl ρ n = stl σ n
  | 0, _ => rfl
  | n + 1, e => by rw [stl, stl, stl_c (fun k hk => e k (by omega)), e n (by omega)]
theorem drift_l (m : MS h) (s0 : ∀ j, j < 156 → f0 423 (3120 + j) = rr f0 j) (di : DI h f0 f) (d : DV h f H) : Mod_movesAll 401 20 1 H = some ((), WI h (ldF (hI H) 20)) ∧ DV h (up2 f0 402 8 (f 402 8)) (WI h (ldF (hI H) 20)) ∧ ∀ j, j < 156 → rr (ldF (hI H) 20) j = rr f0 j := by
  have l := Mod_loads m (k := 20) (by decide) (hI H)
  rw [← d.eta, show ((20 : Nat) : Int) = 20 from rfl] at l
  obtain ⟨o, -⟩ := di
  obtain ⟨r1, r2, r3, r4, r5, r6, r7, r8, r9, r10⟩ := d
  have e23 : ∀ j, j < 156 → hI H 423 (156 * 20 + j) = rr f0 j := fun j hj => by rw [r5 423 (by decide) (by decide) (by decide), o 423 _ (by unfold inrw; omega) (by omega)]; exact s0 j hj
  refine ⟨l, ⟨rfl, rfl, rfl, rfl, fun a h1 h2 h7 => ?_, fun i h9 h6 h7 => ?_, fun i hi => ?_, ?_, ?_, ?_⟩, fun j hj => ?_⟩
  · funext i
    have n1 : a ≠ 401 := fun x => by rw [x] at h1; exact absurd h1 (by decide)
    rw [hI_WI, up2_ne h2]
    unfold ldF
    rw [if_neg (by omega), if_neg (by omega), if_neg (by omega)]
    by_cases c3 : a = 403 ∧ i < 36
    · rw [if_pos c3, e23 _ (by omega), rr_R _ c3.2, c3.1]
    · rw [if_neg c3]
      by_cases c4 : a = 404 ∧ i < 16
      · rw [if_pos c4, e23 _ (by omega), rr_S _ c4.2, c4.1]
      · rw [if_neg c4, if_neg (by omega), r5 a h1 h2 h7, o a i (by unfold inrw; omega) (by omega)]
  · rw [hI_WI, up2_e]
    unfold ldF
    rw [if_neg (by omega), if_neg (by omega)]
    by_cases c8 : i < 8
    · rw [if_pos ⟨rfl, c8⟩, e23 i (by omega), rr_s _ c8, if_neg (by omega)]
    · rw [if_neg (by omega), if_neg (by omega), if_neg (by omega), if_neg (by omega), if_pos (by omega), r6 i h9 h6 h7, show i = 8 by omega]
  · rw [hI_WI, up2_ne (by decide)]
    unfold ldF
    rw [if_neg (by omega), if_neg (by omega), if_neg (by omega), if_neg (by omega), if_neg (by omega)]
    by_cases c : i < 96
    · rw [if_pos ⟨rfl, c⟩, e23 _ (by omega), rr_K]
    · rw [if_neg (by omega), r7 i hi, o 407 i (by unfold inrw; omega) (by omega)]
  · rw [hI_WI, up2_ne (by decide)]; unfold ldF; rw [if_neg (by omega), if_neg (by omega), if_neg (by omega), if_neg (by omega), if_neg (by omega), if_neg (by omega), r8, o 401 10 (by unfold inrw; omega) (by omega)]
  · rw [hI_WI, up2_ne (by decide)]; unfold ldF; rw [if_neg (by omega), if_neg (by omega), if_neg (by omega), if_neg (by omega), if_neg (by omega), if_neg (by omega), r9, o 401 18 (by unfold inrw; omega) (by omega)]
  · rw [hI_WI, up2_ne (by decide)]; unfold ldF; rw [if_neg (by omega), if_neg (by omega), if_neg (by omega), if_neg (by omega), if_neg (by omega), if_neg (by omega), r10, o 401 43 (by unfold inrw; omega) (by omega)]
  · rw [← e23 j hj]
    unfold rr ldF
    by_cases c1 : j < 8
    · rw [if_pos c1, if_neg (by omega), if_neg (by omega), if_pos ⟨rfl, c1⟩]
    · rw [if_neg c1]
      by_cases c2 : j < 44
      · rw [if_pos c2, if_neg (by omega), if_neg (by omega), if_neg (by omega), if_pos ⟨rfl, by omega⟩]; congr 1; omega
      · rw [if_neg c2]
        by_cases c3 : j < 60
        · rw [if_pos c3, if_neg (by omega), if_neg (by omega), if_neg (by omega), if_neg (by omega), if_pos ⟨rfl, by omega⟩]; congr 1; omega
        · rw [if_neg c3, if_neg (by omega), if_neg (by omega), if_neg (by omega), if_neg (by omega), if_neg (by omega), if_pos ⟨rfl, by omega⟩]; congr 1; omega
theorem drift_m (m : MS h) (s0 : ∀ j, j < 156 → f0 423 (3120 + j) = rr f0 j) {P W was : Int} {M N : Nat} (hM : M ≤ 5) (hN0 : 1 ≤ N) (hN1 : N ≤ 30) (hW : W = 0 ∨ W = 1) : ∀ (n t F : Nat) (x : Int) (H : AH) (c s : Int), t + n = M → n < F → DI h f0 (up2 f0 402 8 x) → DV h (up2 f0 402 8 x) H → (∀ j, j < 156 → rr (hI H) j = rr f0 j) → 0 ≤ c → c + 2880000 * n ≤ 20000000 → 0 ≤ s → s + 6 * n ≤ 1000 → ∃ x' H', DV h (up2 f0 402 8 x') H' ∧ (∀ j, j < 156 → rr (hI H') j = rr f0 j) ∧ Mod_drift_L78 F 401 (M : Int) (N : Int) P W was (if W = 0 then c else s) (t : Int) H = some (if W = 0 then (dvM h f0 P N n x c s).1 else (dvM h f0 P N n x c s).2, sI H' 402 8 was)
  | 0, t, F + 1, x, H, c, s, ht, _, di, d, er, c0, c1, s1, s2 => by
    have mH := d.ms m
    refine ⟨x, H, d, er, ?_⟩
    rw [Mod_drift_L78, if_pos (by omega), r_1 mH, w_402 mH (by decide) (by decide)]
    rfl
  | n + 1, t, F + 1, x, H, c, s, ht, hF, di, d, er, c0, c1, s1, s2 => by
    have big := FU_big
    obtain ⟨H1, d1, di1, y0, y1, e1⟩ := drift_n m (M := (M : Int)) (P := P) (W := W) (was := was) (t := (t : Int)) hN1 (Mod_drift_L78 F) N 0 FU (up2 f0 402 8 x) H (if W = 0 then c else s) c (by omega) (by omega) di d (by split <;> omega) (by split <;> omega) (fun w => by rw [if_pos w]) c0
    obtain ⟨l1, l2, l3⟩ := drift_l m s0 di1 d1
    have m1 := d1.ms m
    have sb := stl_b di1.2.2.1 ((dvN h P N (up2 f0 402 8 x) c).1 402 5).toNat (by have := di1.2.2.1.n5; rw [rr_s _ (by decide)] at this ⊢; omega)
    have n5 := di1.2.2.1.n5
    rw [rr_s _ (by decide)] at n5
    have dix : DI h f0 (up2 f0 402 8 ((dvN h P N (up2 f0 402 8 x) c).1 402 8)) := by
      have := di.x di1.2.2.2.1 di1.2.2.2.2
      rw [up2_up2] at this
      exact this
    have st : Mod_staleMany 401 H1 = some (stl (rr (dvN h P N (up2 f0 402 8 x) c).1) ((dvN h P N (up2 f0 402 8 x) c).1 402 5).toNat, H1) := by
      have := Mod_staleMany_e (f := hI H1) m (d1.rb di1.2.2.1)
      rw [← d1.eta, d1.2.2.2.2.2.1 5 (by decide) (by decide) (by decide)] at this
      rw [this, stl_c (ρ := rr (hI H1)) (σ := rr (dvN h P N (up2 f0 402 8 x) c).1) (fun k _ => d1.row (j := 60 + (16 * k + 15)) (by omega) (by omega) (by omega))]
    obtain ⟨x', H', q1, q2, q3⟩ := drift_m m s0 (P := P) (was := was) hM hN0 hN1 hW n (t + 1) F ((dvN h P N (up2 f0 402 8 x) c).1 402 8) (WI h (ldF (hI H1) 20)) (dvN h P N (up2 f0 402 8 x) c).2 (s + stl (rr (dvN h P N (up2 f0 402 8 x) c).1) ((dvN h P N (up2 f0 402 8 x) c).1 402 5).toNat) (by omega) (by omega) dix l2 l3 y0 (by omega) (by omega) (by omega)
    refine ⟨x', H', q1, q2, ?_⟩
    obtain ⟨G, hG⟩ : ∃ G, FU - N = G + 1 := ⟨FU - N - 1, by omega⟩
    rw [Mod_drift_L78, if_neg (by omega), show (0 : Int) = ((0 : Nat) : Int) from rfl]
    rw [show ((0 : Nat) : Int) = 0 from rfl] at e1 ⊢
    rw [e1, hG, Mod_drift_L87, if_pos (Int.le_refl _), wr_id (z := (t : Int) + 1) (by omega) (by omega), show (t : Int) + 1 = ((t + 1 : Nat) : Int) by omega, c_m m1, c_m m1, st, bnd_some, c_m m1, l1, bnd_some, bnd_some, dvM]
    rcases hW with rfl | rfl
    · rw [if_neg (by simp), if_pos rfl, wr_id (by omega) (by omega), Int.add_zero]
      rw [if_pos rfl] at q3 ⊢
      exact q3
    · rw [if_pos (by simp), if_neg (show ¬ (1 : Int) = 0 by decide), if_neg (show ¬ (1 : Int) = 0 by decide), wr_id (by omega) (by omega), if_neg (show ¬ (1 : Int) = 0 by decide)]
      rw [if_neg (show ¬ (1 : Int) = 0 by decide), if_neg (show ¬ (1 : Int) = 0 by decide)] at q3
      exact q3
def dftOk (h : AH) (M N P W : Int) : Prop := hI h 402 0 = 1 ∧ (1 ≤ M ∧ M ≤ 5) ∧ (1 ≤ N ∧ N ≤ 30) ∧ (0 ≤ P ∧ P ≤ 100) ∧ (0 ≤ W ∧ W ≤ 1)
def dftA (h : AH) (M N P W : Int) : Int := if W = 0 then (dvM h (svF (hI h) 20) P N.toNat M.toNat (hI h 402 8) 0 0).1 else (dvM h (svF (hI h) 20) P N.toNat M.toNat (hI h 402 8) 0 0).2
/-- nothing that counts has changed -/
def RE (h H : AH) : Prop := hN H = hN h ∧ hS H = hS h ∧ hK H = hK h ∧ hR H = hR h ∧ (∀ a, scrA a = false → a ≠ 402 → a ≠ 403 → a ≠ 404 → a ≠ 407 → a ≠ 423 → hI H a = hI h a) ∧ hI H 401 10 = hI h 401 10 ∧ hI H 401 18 = hI h 401 18 ∧ hI H 401 43 = hI h 401 43 ∧ hI H 402 8 = hI h 402 8 ∧ (∀ j, j < 156 → rr (hI H) j = rr (hI h) j) ∧ ∀ i, i < 3120 → hI H 423 i = hI h 423 i
theorem Mod_drift_n (m : MS h) {M N P W : Int} (e : ¬ dftOk h M N P W) : Mod_drift 401 M N P W h = some (-1, h) := by
  unfold Mod_drift dftOk at *
  simp only [c_m m, Mod_isBase_e m, bnd_some, ite_bi, ite_nbi, Mod_in_e]
  by_cases c1 : hI h 402 0 = 1
  · rw [if_pos (decide_eq_true c1)]
    cases c2 : inB M 1 5
    · rfl
    · rw [if_pos rfl]
      cases c3 : inB N 1 30
      · rfl
      · rw [if_pos rfl]
        cases c4 : inB P 0 100
        · rfl
        · rw [if_pos rfl]
          cases c5 : inB W 0 1
          · rfl
          · exact absurd ⟨c1, inB_i.mp c2, inB_i.mp c3, inB_i.mp c4, inB_i.mp c5⟩ e
  · rw [if_neg (by simpa using c1)]
theorem Mod_drift_y (m : MS h) (mb : MB h) (b : RB (rr (hI h))) (x0 : 0 ≤ hI h 402 8) (x1 : hI h 402 8 < 2147483648) {M N P W : Int} (e : dftOk h M N P W) : ∃ H, Mod_drift 401 M N P W h = some (dftA h M N P W, H) ∧ RE h H := by
  obtain ⟨e1, e2, e3, e4, e5⟩ := e
  have rs : rr (svF (hI h) 20) = rr (hI h) := by
    funext j; unfold rr svF; simp
  have s0 : ∀ j, j < 156 → svF (hI h) 20 423 (3120 + j) = rr (svF (hI h) 20) j := fun j hj => by
    rw [rs]; unfold svF; rw [if_neg (by omega), if_neg (by omega), if_pos (by omega), show 3120 + j - 156 * 20 = j by omega]
  have s8 : svF (hI h) 20 402 8 = hI h 402 8 := by unfold svF; simp
  have up : up2 (svF (hI h) 20) 402 8 (hI h 402 8) = svF (hI h) 20 := by
    funext a i; rw [up2_e]; split
    · rename_i c; rw [c.1, c.2, s8]
    · rfl
  have mb0 : MB (WI h (svF (hI h) 20)) := MB_of mb (by rw [rs]; exact b) (by unfold svF; simp) (fun a h1 h2 => by funext i; unfold svF; rw [if_neg (by omega), if_neg (by omega), if_neg (by omega)])
  have di : DI h (svF (hI h) 20) (up2 (svF (hI h) 20) 402 8 (hI h 402 8)) := by rw [up]; exact ⟨fun _ _ _ _ => rfl, mb0, by rw [rs]; exact b, by rw [s8]; exact ⟨x0, x1⟩⟩
  have d : DV h (up2 (svF (hI h) 20) 402 8 (hI h 402 8)) (WI h (svF (hI h) 20)) := by rw [up]; exact ⟨rfl, rfl, rfl, rfl, fun _ _ _ _ => rfl, fun _ _ _ _ => rfl, fun _ _ => rfl, rfl, rfl, rfl⟩
  obtain ⟨M', rfl⟩ : ∃ k : Nat, M = (k : Int) := ⟨M.toNat, by omega⟩
  obtain ⟨N', rfl⟩ : ∃ k : Nat, N = (k : Int) := ⟨N.toNat, by omega⟩
  have big := FU_big
  obtain ⟨x', H', d', er, q⟩ := drift_m m s0 (P := P) (W := W) (was := hI h 402 8) (M := M') (N := N') (by omega) (by omega) (by omega) (by omega) M' 0 FU (hI h 402 8) (WI h (svF (hI h) 20)) 0 0 (by omega) (by omega) di d (fun j _ => rfl) (by decide) (by omega) (by decide) (by omega)
  have sv := Mod_saves m (k := 20) (by decide) (hI h)
  rw [WI_id, show ((20 : Nat) : Int) = 20 from rfl] at sv
  have m1 : MS (WI h (svF (hI h) 20)) := m
  refine ⟨sI H' 402 8 (hI h 402 8), ?_, ?_⟩
  · unfold Mod_drift dftA
    simp only [c_m m, Mod_isBase_e m, bnd_some, ite_bi, ite_nbi, Mod_in_e]
    rw [if_pos (decide_eq_true e1), if_pos (inB_i.mpr e2), if_pos (inB_i.mpr e3), if_pos (inB_i.mpr e4), if_pos (inB_i.mpr e5), r_1 m, a_402 m (by decide) (by decide), show (8 : Int).toNat = 8 from rfl, sv, bnd_some]
    rw [show (if W = 0 then (0 : Int) else 0) = 0 by split <;> rfl, show ((0 : Nat) : Int) = 0 from rfl] at q
    exact q
  · obtain ⟨r1, r2, r3, r4, r5, r6, r7, r8, r9, r10⟩ := d'
    have sv' : ∀ a i, a ≠ 402 → ¬ (a = 401 ∧ (i = 44 ∨ i = 45)) → ¬ (a = 423 ∧ 3120 ≤ i) → up2 (svF (hI h) 20) 402 8 x' a i = hI h a i := fun a i h1 h2 h3 => by
      rw [up2_ne h1]; unfold svF; rw [if_neg (by omega), if_neg (by omega), if_neg (by omega)]
    refine ⟨r1, r2, r3, r4, fun a h1 h2 h3 h4 h7 h23 => ?_, ?_, ?_, ?_, hI_sIs _ _ _ _, fun j hj => ?_, fun i hi => ?_⟩
    · have n1 : a ≠ 401 := fun x => by rw [x] at h1; exact absurd h1 (by decide)
      rw [hI_sIn _ _ h2, r5 a h1 h2 h7]
      funext i; exact sv' a i h2 (by omega) (by omega)
    · rw [hI_sIn _ _ (by decide), r8]; exact sv' 401 10 (by decide) (by omega) (by omega)
    · rw [hI_sIn _ _ (by decide), r9]; exact sv' 401 18 (by decide) (by omega) (by omega)
    · rw [hI_sIn _ _ (by decide), r10]; exact sv' 401 43 (by decide) (by omega) (by omega)
    · rw [hI_sI, rr_x, er j hj, rs]
    · rw [hI_sIn _ _ (by decide), r5 423 (by decide) (by decide) (by decide)]; exact sv' 423 i (by decide) (by omega) (by omega)
end R26
