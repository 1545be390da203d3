/-! Level 2: keep -/
def lck (ρ : Nat → Int) (R : Int) : Bool := decide (ρ 1 < rsm ρ (ρ 5).toNat + R) || decide (ρ 5 = 6)
/-- room is made: the row then, how many were forgotten -/
def mkr (R : Int) : Nat → (Nat → Int) → (Nat → Int) × Int
  | 0, ρ => (ρ, 0)
  | n + 1, ρ => if lck ρ R then ((mkr R n (fgRow ρ (lu ρ (ρ 5).toNat))).1, (mkr R n (fgRow ρ (lu ρ (ρ 5).toNat))).2 + 1) else (ρ, 0)
def addRow (ρ : Nat → Int) (X : Nat → Int) (mk : Int) : Nat → Int := fun j => if 60 + 16 * (ρ 5).toNat ≤ j ∧ j < 60 + 16 * (ρ 5).toNat + 16 then (if j = 60 + 16 * (ρ 5).toNat + 14 then ρ 7 else X (j - (60 + 16 * (ρ 5).toNat))) else if j = 5 then ρ 5 + 1 else if j = 6 then wr (ρ 6 + mk) else ρ j
theorem fg_s {ρ : Nat → Int} {k j : Nat} (hj : j < 60) (h5 : j ≠ 5) : fgRow ρ k j = ρ j := by
  unfold fgRow shr u1; rw [if_neg (by omega), if_neg h5]
theorem fg_5 (ρ : Nat → Int) (k : Nat) : fgRow ρ k 5 = ρ 5 - 1 := by
  unfold fgRow shr u1; rw [if_neg (by omega), if_pos rfl]
theorem fg_k {ρ : Nat → Int} {k i u : Nat} (hi : (i : Int) < ρ 5 - 1) (hu : u < 16) : kp (fgRow ρ k) i u = if k ≤ i then kp ρ (i + 1) u else kp ρ i u := by
  unfold kp fgRow shr u1
  by_cases e : k ≤ i
  · rw [if_pos e, if_pos (by omega), if_neg (by omega)]; congr 1; omega
  · rw [if_neg e, if_neg (by omega), if_neg (by omega)]
theorem okP_3 {π σ : Nat → Int} (e0 : π 0 = σ 0) (e1 : π 1 = σ 1) (e2 : π 2 = σ 2) (h : okP π) : okP σ := by
  unfold okP at *; rw [← e0, ← e1, ← e2]; exact h
theorem RB_fg {ρ : Nat → Int} (b : RB ρ) {k : Nat} (hk : (k : Int) < ρ 5) : RB (fgRow ρ k) := by
  obtain ⟨b0, b1, b2, b3, b4, b5, b6, b7, b8⟩ := b
  unfold RB
  rw [fg_s (by decide) (by decide), fg_s (by decide) (by decide), fg_s (by decide) (by decide), fg_s (by decide) (by decide), fg_s (by decide) (by decide), fg_5]
  refine ⟨b0, b1, b2, b3, b4, by omega, fun j hj => ?_, fun j hj => ?_, fun i hi => ?_⟩
  · rw [fg_s (by omega) (by omega)]; exact b6 j hj
  · rw [fg_s (by omega) (by omega)]; exact b7 j hj
  · have x := b8 (if k ≤ i then i + 1 else i) (by split <;> omega)
    have e : ∀ u, u < 16 → kp (fgRow ρ k) i u = kp ρ (if k ≤ i then i + 1 else i) u := fun u hu => by rw [fg_k hi hu]; split <;> rfl
    rw [e 13 (by decide), e 15 (by decide)]
    exact ⟨okP_3 (e 0 (by decide)).symm (e 1 (by decide)).symm (e 2 (by decide)).symm x.1, x.2⟩
section R21
variable {h H : AH} {f f' f1 f2 : Nat → Nat → Int} {ρ ρ' : Nat → Int}
theorem Mod_isKeptAlready_e (m : MS h) (b0 : 0 ≤ f 402 5) (b6 : f 402 5 ≤ 6) {i : Nat} (hi : 16 * i + 13 ≤ 4800) : Mod_isKeptAlready 401 (i : Int) (WI h f) = some (bi (!allR (fun k => !sameF (fun t => f 407 (16 * k + t)) (fun t => f 419 (16 * i + t))) 0 (f 402 5).toNat), WI h f) := by
  have m1 : ∀ f, MS (WI h f) := fun _ => m
  have L : ∀ (n k : Nat), (k : Int) + n = f 402 5 → ∀ fuel, n < fuel → Mod_isKeptAlready_L2 fuel 401 (i : Int) (k : Int) (WI h f) = some (bi (!allR (fun k => !sameF (fun t => f 407 (16 * k + t)) (fun t => f 419 (16 * i + t))) k n), WI h f) := by
    intro n
    induction n with
    | zero =>
      intro k hk fuel hf
      obtain ⟨fuel, rfl⟩ : ∃ j, fuel = j + 1 := ⟨fuel - 1, by omega⟩
      rw [Mod_isKeptAlready_L2, r_1 (m1 _), a_402 (m1 _) (by decide) (by decide), hI_WI, show (5 : Int).toNat = 5 from rfl, if_pos (by omega), allR_0]; rfl
    | succ n ih =>
      intro k hk fuel hf
      obtain ⟨fuel, rfl⟩ : ∃ j, fuel = j + 1 := ⟨fuel - 1, by omega⟩
      rw [Mod_isKeptAlready_L2, r_1 (m1 _), a_402 (m1 _) (by decide) (by decide), hI_WI, show (5 : Int).toNat = 5 from rfl, if_neg (by omega), r_9 (m1 _), r_29 (m1 _), wr_id (z := 16 * (k : Int)) (by omega) (by omega), wr_id (z := 16 * (i : Int)) (by omega) (by omega), show 16 * (k : Int) = ((16 * k : Nat) : Int) by omega, show 16 * (i : Int) = ((16 * i : Nat) : Int) by omega, Mod_areSame_e ((m1 _).K 5 rfl).2 ((m1 _).K 17 rfl).2 (by omega) (by omega) (by decide) (by decide), bnd_some, ite_bi, wr_id (z := (k : Int) + 1) (by omega) (by omega), show (k : Int) + 1 = ((k + 1 : Nat) : Int) by omega, ih (k + 1) (by omega) fuel (by omega), allR_s]
      show (if sameF (fun t => f 407 (16 * k + t)) (fun t => f 419 (16 * i + t)) = true then _ else _) = _
      cases sameF (fun t => f 407 (16 * k + t)) (fun t => f 419 (16 * i + t)) <;> simp [bi]
  exact L (f 402 5).toNat 0 (by omega) FU (by have := FU_big; omega)
/-- the end of keep -/
def kE (v1 v2 : Int) (h4 : AH) : Option (Int × AH) := gR h4 13 401 1 fun r11 => aI h4 21 r11 5 fun x12 => gR h4 13 401 29 fun r13 => gR h4 13 401 9 fun r14 => bnd (Mod_copiesInto r13 (wr (16 * v1)) r14 (wr (16 * x12)) 16 h4) fun _ h15 => gR h15 13 401 9 fun r18 => gR h15 13 401 1 fun r19 => aI h15 21 r19 7 fun x20 => wI h15 21 r18 (wr ((wr (16 * x12)) + 14)) x20 fun h21 => gR h21 13 401 1 fun r22 => aI h21 21 r22 5 fun x23 => wI h21 21 r22 5 (wr (x23 + 1)) fun h24 => gR h24 13 401 1 fun r25 => aI h24 21 r25 6 fun x26 => gR h24 13 401 30 fun r27 => aI h24 21 r27 v1 fun x28 => wI h24 21 r25 6 (wr (x26 + x28)) fun h29 => some (v2, h29)
theorem keep_L (m : MS h) {i : Nat} (hi : 16 * i + 16 ≤ 4800) {R : Int} (hR0 : 0 ≤ R) (hR1 : R ≤ 1000) : ∀ (n : Nat) (f : Nat → Nat → Int) (c : Int) (fuel : Nat), f 402 5 ≤ n → RB (rr f) → R ≤ f 402 1 → f 419 (16 * i + 13) = R → n < fuel → 0 ≤ c → c + n ≤ 100 → ∃ f2, RM f f2 ∧ (∀ a, a ≠ 402 → a ≠ 407 → f2 a = f a) ∧ RB (rr f2) ∧ rr f2 = (mkr R n (rr f)).1 ∧ f2 402 5 < 6 ∧ Mod_keep_L45 fuel 401 (i : Int) c (WI h f) = kE (i : Int) (c + (mkr R n (rr f)).2) (WI h f2) := by
  have m1 : ∀ f, MS (WI h f) := fun _ => m
  intro n
  induction n with
  | zero =>
    intro f c fuel hn b hm e13 hf hc0 hc1
    obtain ⟨fuel, rfl⟩ : ∃ j, fuel = j + 1 := ⟨fuel - 1, by omega⟩
    have b5 := b.n5
    rw [rr_s _ (by decide)] at b5
    have e0 : f 402 5 = 0 := by omega
    refine ⟨f, RM.refl f, fun _ _ _ => rfl, b, rfl, by omega, ?_⟩
    rw [Mod_keep_L45, c_m (m1 _), Mod_rowsOfAll_e m b, bnd_some, c_m (m1 _)]
    unfold Mod_rowsOfOne
    rw [r_29 (m1 _), wr_id (z := 16 * (i : Int)) (by omega) (by omega), wr_id (z := 16 * (i : Int) + 13) (by omega) (by omega), a_419 (m1 _) (by omega) (by omega), bnd_some, r_1 (m1 _), a_402 (m1 _) (by decide) (by decide), hI_WI, tN (16 * (i : Int) + 13) (16 * i + 13) (by omega), e13, show (1 : Int).toNat = 1 from rfl, e0, show rsm (rr f) (0 : Int).toNat = 0 from rfl, wr_id (by omega) (by omega), if_neg (by omega), r_1 (m1 _), a_402 (m1 _) (by decide) (by decide), hI_WI, show (5 : Int).toNat = 5 from rfl, e0, if_pos (by decide)]
    show _ = kE (i : Int) (c + 0) (WI h f)
    rw [Int.add_zero]
    unfold kE
    rw [wr_id (z := 16 * (i : Int)) (by omega) (by omega)]
  | succ n ih =>
    intro f c fuel hn b hm e13 hf hc0 hc1
    obtain ⟨fuel, rfl⟩ : ∃ j, fuel = j + 1 := ⟨fuel - 1, by omega⟩
    have b5 := b.n5
    have b1 := b.m1
    have sb := rsm_b (ρ := rr f) (fun k hk => (b.k hk).2.1) (f 402 5).toNat (by rw [rr_s _ (by decide)]; rw [rr_s _ (by decide)] at b5; omega)
    rw [rr_s _ (by decide)] at b5 b1
    have st : Mod_keep_L45 (fuel + 1) 401 (i : Int) c (WI h f) = if lck (rr f) R then Mod_keep_L75 (Mod_keep_L45 fuel) 401 (i : Int) c (WI h f) else kE (i : Int) c (WI h f) := by
      rw [Mod_keep_L45, c_m (m1 _), Mod_rowsOfAll_e m b, bnd_some, c_m (m1 _)]
      unfold Mod_rowsOfOne lck
      rw [r_29 (m1 _), wr_id (z := 16 * (i : Int)) (by omega) (by omega), wr_id (z := 16 * (i : Int) + 13) (by omega) (by omega), a_419 (m1 _) (by omega) (by omega), bnd_some, r_1 (m1 _), a_402 (m1 _) (by decide) (by decide), hI_WI, tN (16 * (i : Int) + 13) (16 * i + 13) (by omega), e13, show (1 : Int).toNat = 1 from rfl, wr_id (by omega) (by omega), r_1 (m1 _), a_402 (m1 _) (by decide) (by decide), hI_WI, show (5 : Int).toNat = 5 from rfl, rr_s _ (show 1 < 8 by decide), rr_s _ (show 5 < 8 by decide)]
      by_cases c1 : f 402 1 < rsm (rr f) (f 402 5).toNat + R
      · rw [if_pos c1, if_pos (by simp [c1])]
      · rw [if_neg c1]
        by_cases c2 : f 402 5 = 6
        · rw [if_neg (by simpa using c2), if_pos (by simp [c2])]
        · rw [if_pos c2, if_neg (by simp [c1, c2])]
          unfold kE
          rw [wr_id (z := 16 * (i : Int)) (by omega) (by omega)]
    rw [st, mkr]
    cases el : lck (rr f) R
    · refine ⟨f, RM.refl f, fun _ _ _ => rfl, b, rfl, ?_, ?_⟩
      · unfold lck at el
        rw [rr_s _ (show 5 < 8 by decide)] at el
        simp only [Bool.or_eq_false_iff, decide_eq_false_iff_not] at el
        omega
      · rw [if_neg (by decide), if_neg (by decide)]
        show _ = kE (i : Int) (c + 0) (WI h f)
        rw [Int.add_zero]
    · rw [if_pos rfl, if_pos rfl, rr_s _ (show 5 < 8 by decide)]
      have n0 : 0 < f 402 5 := by
        unfold lck at el
        rw [rr_s _ (show 5 < 8 by decide), rr_s _ (show 1 < 8 by decide)] at el
        simp only [Bool.or_eq_true, decide_eq_true_eq] at el
        by_cases z : f 402 5 = 0
        · rw [z, show rsm (rr f) (0 : Int).toNat = 0 from rfl] at el; omega
        · omega
      have lb := lu_b (rr f) (f 402 5).toNat (by omega)
      obtain ⟨f1, y1, y2, y3, y4⟩ := Mod_forgets_e (f := f) m (k := lu (rr f) (f 402 5).toNat) (by omega) (by omega)
      have b' : RB (rr f1) := by rw [y3]; exact RB_fg b (by rw [rr_s _ (by decide)]; omega)
      have s1 : f1 402 1 = f 402 1 := by
        have : rr f1 1 = rr f 1 := by rw [y3, fg_s (by decide) (by decide)]
        rwa [rr_s _ (by decide), rr_s _ (by decide)] at this
      have s5 : f1 402 5 = f 402 5 - 1 := by
        have : rr f1 5 = rr f 5 - 1 := by rw [y3, fg_5]
        rwa [rr_s _ (by decide), rr_s _ (by decide)] at this
      obtain ⟨f2, z1, z2, z3, z4, z5, z6⟩ := ih f1 (c + 1) fuel (by omega) b' (by omega) (by rw [y4 419 (by decide) (by decide)]; exact e13) (by omega) (by omega) (by omega)
      refine ⟨f2, y2.trans z1, fun a h1 h2 => by rw [z2 a h1 h2, y4 a h1 h2], z3, by rw [z4, y3], z5, ?_⟩
      unfold Mod_keep_L75
      rw [c_m (m1 _), Mod_leastUsed_e m b, bnd_some, c_m (m1 _), y1, bnd_some, wr_id (by omega) (by omega), z6, y3]
      congr 1
      show c + 1 + (mkr R n (fgRow (rr f) (lu (rr f) (f 402 5).toNat))).2 = c + ((mkr R n (fgRow (rr f) (lu (rr f) (f 402 5).toNat))).2 + 1)
      omega
theorem kE_e (m : MS h) {i : Nat} (hi : 16 * i + 16 ≤ 4800) (hi3 : i < 300) (b : RB (rr f)) (h5 : f 402 5 < 6) (c : Int) : ∃ f', kE (i : Int) c (WI h f) = some (c, WI h f') ∧ RM f f' ∧ rr f' = addRow (rr f) (fun t => f 419 (16 * i + t)) (f 420 i) := by
  have m1 : ∀ f, MS (WI h f) := fun _ => m
  have b5 := b.n5
  rw [rr_s _ (by decide)] at b5
  obtain ⟨N, hN0⟩ : ∃ N : Nat, f 402 5 = N := ⟨(f 402 5).toNat, by omega⟩
  have cp : Mod_copiesInto 419 ((16 * i : Nat) : Int) 407 ((16 * N : Nat) : Int) ((16 : Nat) : Int) (WI h f) = some ((), WI h (fun a j => if a = 407 then (if 16 * N ≤ j ∧ j < 16 * N + 16 then f 419 (16 * i + (j - 16 * N)) else f 407 j) else f a j)) := by
    rw [copiesInto_e ((m1 f).K 17 rfl).2 ((m1 f).K 5 rfl).2 (by decide) (by omega) (by omega) (by decide) (by decide)]
    congr 2
    refine WI_ext h (fun a j => ?_)
    by_cases e : a = 407 <;> simp [e, hI_WI]
  generalize hg : (fun a j => if a = 407 then (if 16 * N ≤ j ∧ j < 16 * N + 16 then f 419 (16 * i + (j - 16 * N)) else f 407 j) else f a j) = g at cp
  have gn : ∀ a, a ≠ 407 → g a = f a := fun a ha => by rw [← hg]; funext j; simp [ha]
  refine ⟨up2 (up2 (up2 g 407 (16 * N + 14) (f 402 7)) 402 5 ((N : Int) + 1)) 402 6 (wr (f 402 6 + f 420 i)), ?_, ?_, ?_⟩
  · unfold kE
    rw [r_1 (m1 _), a_402 (m1 _) (by decide) (by decide), hI_WI, show (5 : Int).toNat = 5 from rfl, hN0, r_29 (m1 _), r_9 (m1 _), wr_id (z := 16 * (i : Int)) (by omega) (by omega), wr_id (z := 16 * (N : Int)) (by omega) (by omega), show 16 * (i : Int) = ((16 * i : Nat) : Int) by omega, show 16 * (N : Int) = ((16 * N : Nat) : Int) by omega, show (16 : Int) = ((16 : Nat) : Int) from rfl, cp, bnd_some, r_9 (m1 _), r_1 (m1 _), a_402 (m1 _) (by decide) (by decide), hI_WI, gn 402 (by decide), show (7 : Int).toNat = 7 from rfl, wr_id (z := ((16 * N : Nat) : Int) + 14) (by omega) (by omega), w_407 (m1 _) (by omega) (by omega), WI_sI, tN (((16 * N : Nat) : Int) + 14) (16 * N + 14) (by omega), r_1 (m1 _), a_402 (m1 _) (by decide) (by decide), hI_WI, show (5 : Int).toNat = 5 from rfl, up2_ne (show 402 ≠ 407 by decide), gn 402 (by decide), hN0, wr_id (z := (N : Int) + 1) (by omega) (by omega), w_402 (m1 _) (by decide) (by decide), WI_sI, show (5 : Int).toNat = 5 from rfl, r_1 (m1 _), a_402 (m1 _) (by decide) (by decide), hI_WI, show (6 : Int).toNat = 6 from rfl, up2_e, if_neg (by omega), up2_ne (show 402 ≠ 407 by decide), gn 402 (by decide), r_30 (m1 _), a_420 (m1 _) (by omega) (by omega), hI_WI, tN (i : Int) i rfl, up2_ne (show 420 ≠ 402 by decide), up2_ne (show 420 ≠ 407 by decide), gn 420 (by decide), w_402 (m1 _) (by decide) (by decide), WI_sI]
    rfl
  · have rg : RM f g := ⟨fun a _ _ _ _ h7 => gn a h7, by rw [gn 401 (by decide)], by rw [gn 401 (by decide)], by rw [gn 401 (by decide)], by rw [gn 402 (by decide)]⟩
    exact rg.trans ((RM_u _ _ (by omega)).trans ((RM_u _ _ (by omega)).trans (RM_u _ _ (by omega))))
  · rw [rr_u2 _ (by decide), rr_u2 _ (by decide), rr_u7]
    funext j
    have e7 : rr f 7 = f 402 7 := rr_s _ (by decide)
    have e6 : rr f 6 = f 402 6 := rr_s _ (by decide)
    have e5 : rr f 5 = N := by rw [rr_s _ (by decide), hN0]
    unfold addRow
    rw [e5, e6, e7, show ((N : Nat) : Int).toNat = N from rfl]
    simp only [u1]
    rw [← hg]
    simp only [rr]
    grind
def alr (h : AH) (k : Nat) : Bool := !allR (fun i => !sameF (kp (rr (hI h)) i) (pa (cnd h) k)) 0 (hI h 402 5).toNat
def kpOk (h : AH) (k : Int) : Prop := hI h 402 0 = 1 ∧ (0 ≤ k ∧ k < (cnd h).length) ∧ cR h k.toNat ≤ hI h 402 1 ∧ alr h k.toNat = false
def kpRow (h : AH) (k : Nat) : Nat → Int := addRow (mkr (cR h k) 6 (rr (hI h))).1 (cT h k) (cM h k)
theorem addRow_c {X Y : Nat → Int} (e : ∀ t, t < 16 → X t = Y t) (ρ : Nat → Int) (mk : Int) : addRow ρ X mk = addRow ρ Y mk := by
  funext j; unfold addRow
  by_cases c : 60 + 16 * (ρ 5).toNat ≤ j ∧ j < 60 + 16 * (ρ 5).toNat + 16
  · rw [if_pos c, if_pos c, e _ (by omega)]
  · rw [if_neg c, if_neg c]
theorem Mod_keep_x (m : MS h) (mb : MB h) (b : RB (rr (hI h))) (h0 : 0 ≤ hI h 401 43) (h1 : hI h 401 43 ≤ 20) (k : Int) : (¬ kpOk h k → ∃ H, Mod_keep 401 k h = some (-1, H) ∧ RF h H) ∧ (kpOk h k → ∃ f', Mod_keep 401 k h = some ((mkr (cR h k.toNat) 6 (rr (hI h))).2, WI h f') ∧ AC (hI h) f' (kpRow h k.toNat)) := by
  have m1 : ∀ f, MS (WI h f) := fun _ => m
  have len := cnd_len mb
  have b5 := b.n5
  rw [rr_s _ (by decide)] at b5
  by_cases c0 : hI h 402 0 = 1
  · obtain ⟨p, c, kk, mm, e, ci⟩ := Mod_isCandidate_e m mb k
    have rf := RF_CD h p c kk (cnd h).length mm
    have hH : CD h p c kk (cnd h).length mm = WI h (hI (CD h p c kk (cnd h).length mm)) := rfl
    have e9 : hI (CD h p c kk (cnd h).length mm) 419 = c := rfl
    have e20 : hI (CD h p c kk (cnd h).length mm) 420 = kk := rfl
    have g2 : hI (CD h p c kk (cnd h).length mm) 402 = hI h 402 := rf.i (by decide)
    have g7 : hI (CD h p c kk (cnd h).length mm) 407 = hI h 407 := rf.i (by decide)
    have grow := rf.row
    have g43 : hI (CD h p c kk (cnd h).length mm) 401 43 = hI h 401 43 := rf.2.2.2.2.2.2.2
    generalize hI (CD h p c kk (cnd h).length mm) = g at *
    rw [hH] at e rf
    by_cases c1 : 0 ≤ k ∧ k < (cnd h).length
    · obtain ⟨K, rfl⟩ : ∃ K : Nat, k = (K : Int) := ⟨k.toNat, by omega⟩
      obtain ⟨x1, x2, x3, x4, x5, x6⟩ := ci K (by omega)
      have ec : ∀ t, t < 16 → g 419 (16 * K + t) = cT h K t := fun t ht => by
        rw [e9]; unfold cT
        by_cases d : t < 13
        · rw [if_pos d]; exact x1 t d
        · rw [if_neg d]
          by_cases d2 : t = 13
          · rw [if_pos d2, d2]; exact x2
          · rw [if_neg d2]
            have : t = 14 ∨ t = 15 := by omega
            rcases this with rfl | rfl
            · exact x3
            · exact x4
      have e13 : g 419 (16 * K + 13) = cR h K := ec 13 (by decide)
      have rb := cR_b mb K
      have hone : Mod_rowsOfOne 401 (K : Int) (WI h g) = some (cR h K, WI h g) := by
        unfold Mod_rowsOfOne
        rw [r_29 (m1 _), wr_id (z := 16 * (K : Int)) (by omega) (by omega), wr_id (by omega) (by omega), a_419 (m1 _) (by omega) (by omega), tN (16 * (K : Int) + 13) (16 * K + 13) (by omega), hI_WI, e13]
      have ea : (!allR (fun k => !sameF (fun t => g 407 (16 * k + t)) (fun t => g 419 (16 * K + t))) 0 (g 402 5).toNat) = alr h K := by
        unfold alr
        rw [g2]
        congr 1
        refine allR_c (fun i _ _ => ?_)
        congr 1
        refine sameF_c (fun t ht => ?_) (fun t ht => ?_)
        · rw [kp_rr, g7]
        · rw [ec t (by omega)]; unfold cT; rw [if_pos ht]
      have H0 : Mod_keep 401 (K : Int) h = if hI h 402 1 < cR h K then some (-1, WI h g) else (if alr h K then some (-1, WI h g) else bnd (Mod_keepsAct 401 (WI h g)) fun _ h15 => Mod_keep_L45 FU 401 (K : Int) 0 h15) := by
        unfold Mod_keep
        rw [c_m m, Mod_isBase_e m, bnd_some, ite_bi, if_pos (decide_eq_true c0), c_m m, e, bnd_some, ite_bi, if_pos (decide_eq_true c1), c_m (m1 _), hone, bnd_some, r_1 (m1 _), a_402 (m1 _) (by decide) (by decide), hI_WI, g2, show (1 : Int).toNat = 1 from rfl, c_m (m1 _), Mod_isKeptAlready_e m (by rw [g2]; omega) (by rw [g2]; omega) (by omega), bnd_some, ea, ite_bi, c_m (m1 _)]
      rw [H0]
      unfold kpOk
      rw [show ((K : Nat) : Int).toNat = K from rfl]
      refine ⟨fun n => ⟨WI h g, ?_, rf⟩, fun y => ?_⟩
      · by_cases d1 : hI h 402 1 < cR h K
        · rw [if_pos d1]
        · rw [if_neg d1]
          cases d2 : alr h K
          · exact absurd ⟨c0, c1, by omega, d2⟩ n
          · rw [if_pos rfl]
      · obtain ⟨-, -, y3, y4⟩ := y
        obtain ⟨f1, z1, ka⟩ := Mod_keepsAct_e m (f := g) (by omega) (by omega)
        have k2 : f1 402 = g 402 := ka.e (by decide) (by decide)
        obtain ⟨f2, w1, w2, w3, w4, w5, w6⟩ := keep_L m (i := K) (by omega) (R := cR h K) rb.1 (by omega) 6 f1 0 FU (by rw [k2, g2]; omega) (by rw [ka.row, grow]; exact b) (by rw [k2, g2]; exact y3) (by rw [ka.e (by decide) (by decide)]; exact e13) (by decide) (by decide) (by decide)
        obtain ⟨f3, v1, v2, v3⟩ := kE_e m (i := K) (by omega) (by omega) w3 w5 (0 + (mkr (cR h K) 6 (rr f1)).2)
        rw [if_neg (by omega), y4, if_neg (by decide), z1, bnd_some, w6, v1, Int.zero_add, ka.row, grow]
        refine ⟨f3, rfl, AC.pre rf (AC_of ka (w1.trans v2) (fun j _ => ?_))⟩
        rw [v3, w4, ka.row, grow]
        unfold kpRow
        rw [w2 419 (by decide) (by decide), w2 420 (by decide) (by decide), ka.e (a := 419) (by decide) (by decide), ka.e (a := 420) (by decide) (by decide), addRow_c ec, e20, x5]
        rfl
    · refine ⟨fun _ => ⟨WI h g, ?_, rf⟩, fun y => absurd y.2.1 c1⟩
      unfold Mod_keep
      rw [c_m m, Mod_isBase_e m, bnd_some, ite_bi, if_pos (decide_eq_true c0), c_m m, e, bnd_some, ite_bi, if_neg (by simpa using c1)]
  · refine ⟨fun _ => ⟨h, ?_, RF.refl h⟩, fun y => absurd y.1 c0⟩
    unfold Mod_keep
    rw [c_m m, Mod_isBase_e m, bnd_some, ite_bi, if_neg (by simpa using c0)]
end R21
