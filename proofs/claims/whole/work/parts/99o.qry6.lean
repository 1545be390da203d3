/-! Level 2: the reference reads a query: columns, tests, what is shown -/
section N2
variable {K H : AH} {n p q : Nat} {φ t : Int} {T : Nat → Int} {ω ω' : Nat → Int}
theorem takes_f (r : RDM K n T) (hp : p < 1000) (h : φ ≠ 0) (w : Nat) : Mod_takes 401 w (S41 K p φ) = some (0, S41 K p φ) := by
  have m := r.1
  unfold Mod_takes Mod_takes_L20
  rw [g_m (s41_m m _ _), s41_20, if_pos h, g_m (s41_m m _ _), s41_19, if_pos rfl, p_m (s41_m m _ _), wr_id (by omega) (by omega), Int.add_zero, s41_p, rz_k (Or.inl rfl)]
theorem takes_m (r : RDM K n T) (hp : p ≤ 400) {w : Nat} (hw : 1 ≤ w ∧ w < 8) : Mod_takes 401 w (S41 K p 0) = if isW T n (sk T n p) w then some (1, S41 K (sk T n p + sLn w) 0) else some (0, S41 K (sk T n p) 0) := by
  have m := r.1
  have r5 := r.2.2.1
  have qb := sk_b T n p
  have l4 : ∀ w, w < 8 → sLn w ≤ 4 := by decide
  have l4w := l4 w hw.2
  unfold Mod_takes Mod_takes_L20
  rw [g_m (s41_m m _ _), s41_20, if_neg (by simp), c_m (s41_m m _ _), stood_e r (by omega) 0 hw, bnd_some, ite_bi]
  generalize sk T n p = q at *
  by_cases c : isW T n q w = true
  · rw [if_pos c, if_pos c, g_m (s41_m m _ _), s41_19, if_neg (by decide), sLen, if_pos hw, p_m (s41_m m _ _), wr_id (by omega) (by omega), show (q : Int) + ((sLn w : Nat) : Int) = ((q + sLn w : Nat) : Int) by omega, s41_p, rz_k (Or.inr rfl)]
  · rw [if_neg c, if_neg c, g_m (s41_m m _ _), s41_19, if_pos rfl, p_m (s41_m m _ _), wr_id (by omega) (by omega), Int.add_zero, s41_p, rz_k (Or.inl rfl)]
theorem column_f (r : RDM K n T) (hp : p < 1000) (h : 0 < φ) (v1 v2 : Int) : Mod_column 401 v1 v2 (S41 K p φ) = some (-1, S41 K (sk T n p) φ) := by
  have m := r.1
  unfold Mod_column
  rw [c_m (s41_m m _ _), sign_e r hp, bnd_some, g_m (s41_m m _ _), g_m (s41_m m _ _), s41_20, if_neg (by omega)]
/-- the reference takes a column -/
theorem column_m (r : RDM K n T) (hp : p < 1000) {v1 v2 lo hi : Int} (hb : ∀ c : Int, 0 ≤ c → c ≤ 4 → ((lo ≤ c ∧ c ≤ hi) ↔ (if 3 ≤ c then v2 ≠ 0 else v1 ≠ 0))) : Mod_column 401 v1 v2 (S41 K p 0) = some (if colF T n (sk T n p) lo hi 0 = 0 then T (sk T n p) - 97 else -1, S41 K (sk T n p) (colF T n (sk T n p) lo hi 0)) := by
  obtain ⟨m, r4, r5, rT⟩ := id r
  have qb := sk_b T n p
  unfold Mod_column
  rw [c_m (s41_m m _ _), sign_e r hp, bnd_some]
  generalize sk T n p = q at *
  have hq : q < 1000 := by omega
  have bad : ∀ v3 : Int, Mod_column_L76 401 v1 v2 v3 (q : Int) 0 (S41 K q 0) = some (-1, S41 K q (flt 0 q 0)) := fun v3 => by
    unfold Mod_column_L76
    rw [if_neg (by decide), c_m (s41_m m _ _), fails_e r hq (by decide) (by decide), bnd_some]
  rw [g_m (s41_m m _ _), s41_19, g_m (s41_m m _ _), s41_20, if_pos (by decide), Mod_in_e, bnd_some, ite_bi]
  by_cases c : q < n
  · have tq := rT q c
    rw [if_pos c]
    by_cases d : 97 ≤ T q ∧ T q ≤ 101
    · have good : wl T n q = 1 → Mod_column_L76 401 v1 v2 (T q) (q : Int) 1 (S41 K q 0) = some (if colF T n q lo hi 0 = 0 then T q - 97 else -1, S41 K q (colF T n q lo hi 0)) := fun w => by
        have e0 : colF T n q lo hi 0 = if lo ≤ T q - 97 ∧ T q - 97 ≤ hi then 0 else flt 0 q 2 := by unfold colF; rw [if_pos ⟨w, d.2⟩]
        have f2 := flt_n 0 q (k := 2) (by decide)
        have b := hb (T q - 97) (by omega) (by omega)
        unfold Mod_column_L76
        rw [if_pos (by decide), wr_id (by omega) (by omega), c_m (s41_m m _ _), fails_e r hq (by decide) (by decide), bnd_some, e0]
        by_cases z : (3 : Int) ≤ T q - 97
        · rw [if_pos z] at b
          rw [if_pos z]
          by_cases y : v2 = 0
          · rw [if_neg (show ¬ ¬ v2 = 0 from fun x => x y), if_neg (show ¬ (lo ≤ T q - 97 ∧ T q - 97 ≤ hi) from fun x => (b.mp x) y), if_neg f2]
          · rw [if_pos y, if_pos (b.mpr y), if_pos rfl]
        · rw [if_neg z] at b
          rw [if_neg z]
          by_cases y : v1 = 0
          · rw [if_neg (show ¬ ¬ v1 = 0 from fun x => x y), if_neg (show ¬ (lo ≤ T q - 97 ∧ T q - 97 ≤ hi) from fun x => (b.mp x) y), if_neg f2]
          · rw [if_pos y, if_pos (b.mpr y), if_pos rfl]
      rw [if_pos (inB_i.mpr d), g_m (s41_m m _ _), s41_19, g_m (s41_m m _ _), s41_o (by decide) (by decide), r4, wr_id (by omega) (by omega)]
      by_cases e : (q : Int) + 1 = n
      · rw [if_pos e, good (wl_i ⟨c, by omega, by omega⟩ (by omega))]
      · have tq1 := rT (q + 1) (by omega)
        rw [if_neg e, r_21 (s41_m m _ _), g_m (s41_m m _ _), s41_19, wr_id (by omega) (by omega), a_415 (s41_m m _ _) (by omega) (by omega), s41_n (by decide), tN ((q : Int) + 1) (q + 1) (by omega), Mod_in_e, bnd_some, ite_nbi]
        by_cases l : 97 ≤ hI K 415 (q + 1) ∧ hI K 415 (q + 1) ≤ 122
        · have nw : ¬ (wl T n q = 1) := fun w => by have := (wl_1 w).2.2.2; omega
          have e0 : colF T n q lo hi 0 = flt 0 q 0 := by unfold colF; rw [if_neg (fun x => nw x.1)]
          rw [if_pos (inB_i.mpr l), bad, e0, if_neg (flt_n _ _ (by decide))]
        · rw [if_neg (fun x => l (inB_i.mp x)), good (wl_i ⟨c, by omega, by omega⟩ (by omega))]
    · have e0 : colF T n q lo hi 0 = flt 0 q 0 := by
        unfold colF
        rw [if_neg (fun x => d ⟨(wl_1 x.1).2.1, x.2⟩)]
      rw [if_neg (fun x => d (inB_i.mp x)), bad, e0, if_neg (flt_n _ _ (by decide))]
  · have e0 : colF T n q lo hi 0 = flt 0 q 0 := by
      unfold colF
      rw [if_neg (fun x => c (wl_1 x.1).1)]
    rw [if_neg c, if_neg (fun x => absurd (inB_i.mp x) (by decide)), bad, e0, if_neg (flt_n _ _ (by decide))]
theorem colF_p {lo hi : Int} (q : Nat) : 0 ≤ colF T n q lo hi 0 := by
  have f0 := flt_p q (k := 0) (by decide)
  have f2 := flt_p q (k := 2) (by decide)
  unfold colF
  split
  · split <;> omega
  · omega
theorem columnOf_m (hq : q < 8) (r : RDM K n T) (hp : p < 1000) (hs : ω 0 = 0 ∨ ω 0 = 1 ∨ ω 0 = 2) : Mod_columnOf 401 (S41 (R4 K q ω t) p 0) = some (if colF T n (sk T n p) (lo0 (ω 0)) (hi0 (ω 0)) 0 = 0 then T (sk T n p) - 97 else -1, S41 (R4 K q ω t) (sk T n p) (colF T n (sk T n p) (lo0 (ω 0)) (hi0 (ω 0)) 0)) := by
  have rr : RDM (R4 K q ω t) n T := R4_rd r
  have m := rr.1
  have hb : ∀ c : Int, 0 ≤ c → c ≤ 4 → ((lo0 (ω 0) ≤ c ∧ c ≤ hi0 (ω 0)) ↔ (if 3 ≤ c then bi (isOfB (ω 0) 3) ≠ 0 else bi (isOfB (ω 0) 0) ≠ 0)) := fun c h0 h4 => by
    rcases hs with e | e | e
    · rw [e, show lo0 0 = 0 from rfl, show hi0 0 = 2 from rfl, show bi (isOfB 0 3) = 0 from rfl, show bi (isOfB 0 0) = 1 from rfl]
      by_cases z : (3 : Int) ≤ c
      · rw [if_pos z]; exact ⟨fun h => by omega, fun h => absurd rfl h⟩
      · rw [if_neg z]; exact ⟨fun h => by decide, fun h => by omega⟩
    · rw [e, show lo0 1 = 3 from rfl, show hi0 1 = 4 from rfl, show bi (isOfB 1 3) = 1 from rfl, show bi (isOfB 1 0) = 0 from rfl]
      by_cases z : (3 : Int) ≤ c
      · rw [if_pos z]; exact ⟨fun h => by decide, fun h => by omega⟩
      · rw [if_neg z]; exact ⟨fun h => by omega, fun h => absurd rfl h⟩
    · rw [e, show lo0 2 = 0 from rfl, show hi0 2 = 4 from rfl, show bi (isOfB 2 3) = 1 from rfl, show bi (isOfB 2 0) = 1 from rfl]
      by_cases z : (3 : Int) ≤ c
      · rw [if_pos z]; exact ⟨fun h => by decide, fun h => by omega⟩
      · rw [if_neg z]; exact ⟨fun h => by decide, fun h => by omega⟩
  unfold Mod_columnOf
  rw [r_11 (s41_m m _ _), g_m (s41_m m _ _), y_22, a_408 (s41_m m _ _) (by omega) (by omega), tN (q : Int) q rfl, y_408, Mod_isOf_e, bnd_some, r_11 (s41_m m _ _), g_m (s41_m m _ _), y_22, a_408 (s41_m m _ _) (by omega) (by omega), tN (q : Int) q rfl, y_408, Mod_isOf_e, bnd_some, c_m (s41_m m _ _), column_m rr hp hb, bnd_some]
theorem u1_id (g : Nat → Int) (k : Nat) : u1 g k (g k) = g := by
  funext j; unfold u1; split
  · rename_i h; rw [h]
  · rfl
/-- the reference's bounds -/
theorem bounds_m (hq : q < 8) (r : RDM K n T) {c : Nat} (hc : c < 5) (a b : Int) : Mod_bounds 401 (c : Int) a b (S41 (R4 K q ω t) p φ) = some ((), S41 (R4 K q (u1 (u1 ω (3 + 2 * c) (mMax (ω (3 + 2 * c)) a)) (4 + 2 * c) (mMin (ω (4 + 2 * c)) b)) t) p φ) := by
  have mR : ∀ ω t, MS (R4 K q ω t) := fun _ _ => (R4_rd r).1
  have ix : wr (wr (5 * (q : Int)) + (c : Int)) = ((5 * q + c : Nat) : Int) := by
    rw [wr_id (z := 5 * (q : Int)) (by omega) (by omega), wr_id (by omega) (by omega)]; omega
  have l38 : ∀ v : Int, Mod_bounds_L38 401 b ((5 * q + c : Nat) : Int) v ((5 * q + c : Nat) : Int) 411 (S41 (R4 K q ω t) p φ) = some ((), S41 (R4 K q (u1 (u1 ω (3 + 2 * c) v) (4 + 2 * c) (mMin (ω (4 + 2 * c)) b)) t) p φ) := fun v => by
    unfold Mod_bounds_L38
    rw [w_411 (s41_m (mR _ _) _ _) (by omega) (by omega), tN ((5 * q + c : Nat) : Int) _ rfl, z_411 hc, r_15 (s41_m (mR _ _) _ _), r_15 (s41_m (mR _ _) _ _), a_412 (s41_m (mR _ _) _ _) (by omega) (by omega), tN ((5 * q + c : Nat) : Int) _ rfl, y_412 hc, u1_n (by omega), r_15 (s41_m (mR _ _) _ _), a_412 (s41_m (mR _ _) _ _) (by omega) (by omega), tN ((5 * q + c : Nat) : Int) _ rfl, y_412 hc, u1_n (by omega), w_412 (s41_m (mR _ _) _ _) (by omega) (by omega), w_412 (s41_m (mR _ _) _ _) (by omega) (by omega), tN ((5 * q + c : Nat) : Int) _ rfl, z_412 hc, z_412 hc]
    unfold mMin
    by_cases z : ω (4 + 2 * c) ≤ b
    · rw [if_pos z, if_neg (by omega)]
    · rw [if_neg z, if_pos (by omega)]
  unfold Mod_bounds
  rw [g_m (s41_m (mR _ _) _ _), y_22, ix, r_14 (s41_m (mR _ _) _ _), r_14 (s41_m (mR _ _) _ _), a_411 (s41_m (mR _ _) _ _) (by omega) (by omega), tN ((5 * q + c : Nat) : Int) _ rfl, y_411 hc, r_14 (s41_m (mR _ _) _ _), a_411 (s41_m (mR _ _) _ _) (by omega) (by omega), tN ((5 * q + c : Nat) : Int) _ rfl, y_411 hc, l38, l38]
  unfold mMax
  by_cases z : a ≤ ω (3 + 2 * c)
  · rw [if_pos z, if_neg (by omega)]
  · rw [if_neg z, if_pos (by omega)]
theorem nrw_e (hB : QB1 ω) {c : Nat} (hc : c < 5) (b : Int) (e : Bool) (v : Int) : u1 (u1 ω (3 + 2 * c) (mMax (ω (3 + 2 * c)) (if b = 60 then 0 else if e then v else v + 1))) (4 + 2 * c) (mMin (ω (4 + 2 * c)) (if b = 62 then 9 else if e then v else v - 1)) = nrw ω c b e v := by
  have h := hB.2 c hc
  unfold nrw nw1 nw2
  by_cases c1 : b = 60
  · have m0 : mMax (ω (3 + 2 * c)) 0 = ω (3 + 2 * c) := by unfold mMax; rw [if_neg (by omega)]
    rw [if_pos c1, if_pos c1, m0, u1_id, if_neg (show ¬ b = 62 by omega), if_neg (show ¬ b = 62 by omega)]
  · rw [if_neg c1, if_neg c1]
    by_cases c2 : b = 62
    · have m9 : mMin (ω (4 + 2 * c)) 9 = ω (4 + 2 * c) := by unfold mMin; rw [if_neg (by omega)]
      have e4 : ω (4 + 2 * c) = u1 ω (3 + 2 * c) (mMax (ω (3 + 2 * c)) (if e then v else v + 1)) (4 + 2 * c) := by rw [u1_n (by omega)]
      rw [if_pos c2, if_pos c2, m9]
      conv => lhs; rw [e4]
      rw [u1_id]
    · rw [if_neg c2, if_neg c2, u1_n (g := ω) (by omega)]
theorem nrw_B (hB : QB1 ω) {c : Nat} (hc : c < 5) (b : Int) (e : Bool) {v : Int} (hv : 0 ≤ v ∧ v ≤ 9) : QB1 (nrw ω c b e v) := by
  refine ⟨by rw [nrw_0 _ _ _ _ _ (by omega) hc]; exact hB.1, fun d hd => ?_⟩
  have h := hB.2 d hd
  rw [← nrw_e hB hc]
  have a1 : ∀ x y : Int, mMax x y = x ∨ (mMax x y = y ∧ x < y) := fun x y => by unfold mMax; split <;> omega
  have a2 : ∀ x y : Int, mMin x y = x ∨ (mMin x y = y ∧ y < x) := fun x y => by unfold mMin; split <;> omega
  have g1 : (0 : Int) ≤ (if b = 60 then 0 else if e then v else v + 1) ∧ (if b = 60 then 0 else if e then v else v + 1) ≤ 10 := by
    repeat' split
    all_goals omega
  have g2 : (-1 : Int) ≤ (if b = 62 then 9 else if e then v else v - 1) ∧ (if b = 62 then 9 else if e then v else v - 1) ≤ 9 := by
    repeat' split
    all_goals omega
  generalize (if b = 60 then 0 else if e then v else v + 1) = x at *
  generalize (if b = 62 then 9 else if e then v else v - 1) = y at *
  have b1 := a1 (ω (3 + 2 * c)) x
  have b2 := a2 (ω (4 + 2 * c)) y
  generalize mMax (ω (3 + 2 * c)) x = X at *
  generalize mMin (ω (4 + 2 * c)) y = Y at *
  rw [u1_n (show 3 + 2 * d ≠ 4 + 2 * c by omega)]
  by_cases e1 : d = c
  · subst e1
    rw [u1_s, u1_s]; omega
  · rw [u1_n (by omega), u1_n (by omega), u1_n (by omega)]; exact h
/-- the reference reads a test -/
theorem testPart_m (hq : q < 8) (r : RDM K n T) (hp : p ≤ 400) {tt : Nat} (ht : tt ≤ 12) (hB : QB1 ω) : ∃ p' ω' t', Mod_testPart 401 (S41 (R4 K q ω (tt : Int)) p 0) = some ((), S41 (R4 K q ω' t') p' (tsF T n (ω 0) tt p)) ∧ p' ≤ 400 ∧ (tsF T n (ω 0) tt p = 0 → p' = tsP T n p ∧ ω' = tsW T n p ω ∧ t' = ((tt + 1 : Nat) : Int)) := by
  have rR : ∀ ω t, RDM (R4 K q ω t) n T := fun _ _ => R4_rd r
  have mR : ∀ ω t, MS (R4 K q ω t) := fun _ _ => (R4_rd r).1
  obtain ⟨-, -, r5, rT⟩ := id r
  have r4 : ∀ ω t, hI (R4 K q ω t) 401 18 = n := fun ω t => (rR ω t).2.1
  have qb := sk_b T n p
  have e415 : ∀ ω t, hI (R4 K q ω t) 415 = hI K 415 := fun ω t => (FQ_R4 K q ω t).2.1 415 (by decide) (by decide)
  have l30 : ∀ (φ v : Int) (p : Nat), 0 < φ → Mod_testPart_L30 401 v (S41 (R4 K q ω (tt : Int)) p φ) = some ((), S41 (R4 K q ω (tt : Int)) p φ) := fun φ v p h => by
    unfold Mod_testPart_L30
    rw [g_m (s41_m (mR _ _) _ _), s41_20, if_neg (by omega)]
  unfold Mod_testPart
  rw [c_m (s41_m (mR _ _) _ _), columnOf_m hq r (by omega) hB.1, bnd_some, g_m (s41_m (mR _ _) _ _), s41_20]
  have cp := colF_p (T := T) (n := n) (lo := lo0 (ω 0)) (hi := hi0 (ω 0)) (sk T n p)
  by_cases c : colF T n (sk T n p) (lo0 (ω 0)) (hi0 (ω 0)) 0 = 0
  · obtain ⟨cc, hc, ec⟩ := colF_c c
    have q1 := (colF_0 c).2.1
    rw [c, if_pos rfl, if_neg (by simp), g_m (s41_m (mR _ _) _ _), y_23, g_m (s41_m (mR _ _) _ _), s41_19, c_m (s41_m (mR _ _) _ _), fails_e (rR _ _) (by omega) (by decide) (by decide), bnd_some]
    by_cases d : 12 ≤ tt
    · have e0 : tsF T n (ω 0) tt p = flt 0 (sk T n p) 4 := by unfold tsF; rw [if_neg (by simpa using c), if_pos d]
      rw [if_neg (show ¬ ¬ (tt : Int) = 12 by omega), l30 _ _ _ (flt_p _ (by decide)), e0]
      exact ⟨_, _, _, rfl, by omega, fun e => absurd e (flt_n _ _ (by decide))⟩
    · rw [if_pos (show ¬ (tt : Int) = 12 by omega)]
      have sb := sk_b T n (sk T n p + 1)
      have e0 : tsF T n (ω 0) tt p = if sk T n (sk T n p + 1) < n ∧ (T (sk T n (sk T n p + 1)) = 60 ∨ T (sk T n (sk T n p + 1)) = 61 ∨ T (sk T n (sk T n p + 1)) = 62) then nmF T n (sgQ T n (sk T n (sk T n p + 1))) 9 0 else flt 0 (sk T n (sk T n p + 1)) 0 := by
        unfold tsF; rw [if_neg (by simpa using c), if_neg d]
      have eP : tsP T n p = nmP T n (sgQ T n (sk T n (sk T n p + 1))) := rfl
      have eW : tsW T n p ω = nrw ω cc (T (sk T n (sk T n p + 1))) (sgE T n (sk T n (sk T n p + 1))) (nmV T n (sgQ T n (sk T n (sk T n p + 1)))) := by
        unfold tsW; rw [ec, tN (cc : Int) cc rfl]
      rw [e0, eP, eW, ec]
      unfold Mod_testPart_L30
      rw [g_m (s41_m (mR _ _) _ _), s41_20, if_pos (by decide), g_m (s41_m (mR _ _) _ _), y_23, p_m (s41_m (mR _ _) _ _), z_23, wr_id (z := (tt : Int) + 1) (by omega) (by omega), show (tt : Int) + 1 = ((tt + 1 : Nat) : Int) by omega, g_m (s41_m (mR _ _) _ _), s41_19, p_m (s41_m (mR _ _) _ _), wr_id (by omega) (by omega), show ((sk T n p : Nat) : Int) + 1 = ((sk T n p + 1 : Nat) : Int) by omega, s41_p, c_m (s41_m (mR _ _) _ _), sign_e (rR _ _) (by omega), bnd_some]
      generalize sk T n (sk T n p + 1) = z at *
      by_cases a : z < n ∧ (T z = 60 ∨ T z = 61 ∨ T z = 62)
      · have sgb := sgQ_b (T := T) a.1
        have l158 : ∀ (s0 s1 : Int) (e : Bool), s1 + s0 = (sgQ T n z : Int) → e = sgE T n z → ∃ p' ω' t', Mod_testPart_L158 401 (cc : Int) (T z) (bi e) s0 s1 401 (S41 (R4 K q ω ((tt + 1 : Nat) : Int)) (z + 1) 0) = some ((), S41 (R4 K q ω' t') p' (nmF T n (sgQ T n z) 9 0)) ∧ p' ≤ 400 ∧ (nmF T n (sgQ T n z) 9 0 = 0 → p' = nmP T n (sgQ T n z) ∧ ω' = nrw ω cc (T z) (sgE T n z) (nmV T n (sgQ T n z)) ∧ t' = ((tt + 1 : Nat) : Int)) := fun s0 s1 e hs he => by
          obtain ⟨p', v, x1, x2, x3⟩ := amount_0 (rR ω ((tt + 1 : Nat) : Int)) (p := sgQ T n z) (by omega) 9
          unfold Mod_testPart_L158
          rw [p_m (s41_m (mR _ _) _ _), hs, wr_id (by omega) (by omega), s41_p, c_m (s41_m (mR _ _) _ _), x1, bnd_some, g_m (s41_m (mR _ _) _ _), s41_20]
          by_cases y : nmF T n (sgQ T n z) 9 0 = 0
          · obtain ⟨y1, y2⟩ := x3 y
            obtain ⟨-, y3, y4⟩ := nmF_0 y
            rw [← y2] at y3 y4
            have l203 : ∀ s0 : Int, Mod_testPart_L203 (T z) (bi e) v s0 (cc : Int) 401 (S41 (R4 K q ω ((tt + 1 : Nat) : Int)) p' 0) = some ((), S41 (R4 K q (u1 (u1 ω (3 + 2 * cc) (mMax (ω (3 + 2 * cc)) s0)) (4 + 2 * cc) (mMin (ω (4 + 2 * cc)) (if T z = 62 then 9 else if e then v else v - 1))) ((tt + 1 : Nat) : Int)) p' 0) := fun s0 => by
              unfold Mod_testPart_L203
              rw [ite_bi, c_m (s41_m (mR _ _) _ _), bounds_m hq r hc, bnd_some, c_m (s41_m (mR _ _) _ _), bounds_m hq r hc, bnd_some, c_m (s41_m (mR _ _) _ _), bounds_m hq r hc, bnd_some, wr_id (by omega) (by omega)]
              by_cases b2 : T z = 62
              · rw [if_neg (show ¬ ¬ T z = 62 from fun x => x b2), if_pos b2]
              · rw [if_pos b2, if_neg b2]
                cases e
                · rw [if_neg (by decide), if_neg (by decide)]
                · rw [if_pos rfl, if_pos rfl]
            rw [y, if_neg (by simp), ite_bi, l203, l203, l203, wr_id (by omega) (by omega), ← y2, ← he, ← nrw_e hB hc]
            refine ⟨p', _, _, ?_, x2, fun _ => ⟨y1, rfl, rfl⟩⟩
            by_cases b1 : T z = 60
            · rw [if_neg (show ¬ ¬ T z = 60 from fun x => x b1), if_pos b1]
            · rw [if_pos b1, if_neg b1]
              cases e
              · rfl
              · rfl
          · rw [if_pos y]
            exact ⟨p', ω, ((tt + 1 : Nat) : Int), rfl, x2, fun e => absurd e y⟩
        have l91 : ∃ p' ω' t', Mod_testPart_L91 401 (cc : Int) (T z) (S41 (R4 K q ω ((tt + 1 : Nat) : Int)) z 0) = some ((), S41 (R4 K q ω' t') p' (nmF T n (sgQ T n z) 9 0)) ∧ p' ≤ 400 ∧ (nmF T n (sgQ T n z) 9 0 = 0 → p' = nmP T n (sgQ T n z) ∧ ω' = nrw ω cc (T z) (sgE T n z) (nmV T n (sgQ T n z)) ∧ t' = ((tt + 1 : Nat) : Int)) := by
          unfold Mod_testPart_L91 Mod_testPart_L137
          rw [g_m (s41_m (mR _ _) _ _), s41_19, p_m (s41_m (mR _ _) _ _), wr_id (by omega) (by omega), show (z : Int) + 1 = ((z + 1 : Nat) : Int) by omega, s41_p, g_m (s41_m (mR _ _) _ _), s41_19]
          by_cases b1 : T z = 61
          · have eE : sgE T n z = true := by unfold sgE; exact decide_eq_true (Or.inl b1)
            have eQ : sgQ T n z = z + 1 := by unfold sgQ; exact if_neg (fun x => x.1 b1)
            have := l158 0 ((z + 1 : Nat) : Int) true (by rw [eQ]; omega) eE.symm
            rw [bi_t] at this
            rw [if_pos b1, if_pos b1]
            exact this
          · rw [if_neg b1, g_m (s41_m (mR _ _) _ _), s41_19, g_m (s41_m (mR _ _) _ _), s41_o (by decide) (by decide), r4]
            by_cases b2 : z + 1 < n
            · have tz := rT (z + 1) b2
              rw [if_neg (show ¬ (n : Int) ≤ ((z + 1 : Nat) : Int) by omega), r_21 (s41_m (mR _ _) _ _), g_m (s41_m (mR _ _) _ _), s41_19, a_415 (s41_m (mR _ _) _ _) (by omega) (by omega), s41_n (by decide), e415, tN ((z + 1 : Nat) : Int) (z + 1) rfl]
              by_cases b3 : hI K 415 (z + 1) = 61
              · have eE : sgE T n z = true := by unfold sgE; exact decide_eq_true (Or.inr ⟨b2, by omega⟩)
                have eQ : sgQ T n z = z + 2 := by unfold sgQ; exact if_pos ⟨b1, b2, by omega⟩
                have := l158 1 ((z + 1 : Nat) : Int) true (by rw [eQ]; omega) eE.symm
                rw [bi_t] at this
                rw [if_neg (show ¬ ¬ hI K 415 (z + 1) = 61 from fun x => x b3), if_neg b1, if_neg (by decide)]
                exact this
              · have eE : sgE T n z = false := by unfold sgE; exact decide_eq_false (by omega)
                have eQ : sgQ T n z = z + 1 := by unfold sgQ; exact if_neg (by omega)
                have := l158 0 ((z + 1 : Nat) : Int) false (by rw [eQ]; omega) eE.symm
                rw [bi_f] at this
                rw [if_pos b3, g_m (s41_m (mR _ _) _ _), s41_19, if_neg b1, if_pos rfl]
                exact this
            · have eE : sgE T n z = false := by unfold sgE; exact decide_eq_false (by omega)
              have eQ : sgQ T n z = z + 1 := by unfold sgQ; exact if_neg (by omega)
              have := l158 0 ((z + 1 : Nat) : Int) false (by rw [eQ]; omega) eE.symm
              rw [bi_f] at this
              rw [if_pos (show (n : Int) ≤ ((z + 1 : Nat) : Int) by omega), g_m (s41_m (mR _ _) _ _), s41_19, if_neg b1, if_pos rfl]
              exact this
        rw [if_pos a.1, if_pos a]
        rcases a.2 with u | u | u
        · rw [if_pos u]; exact l91
        · rw [if_neg (by omega), if_pos u]; exact l91
        · rw [if_neg (by omega), if_neg (by omega), if_pos u]; exact l91
      · rw [if_neg a]
        have nn : ∀ k : Int, (k = 60 ∨ k = 61 ∨ k = 62) → ¬ ((if z < n then T z else -1) = k) := fun k hk => by
          split <;> omega
        rw [if_neg (nn 60 (by omega)), if_neg (nn 61 (by omega)), if_neg (nn 62 (by omega)), g_m (s41_m (mR _ _) _ _), s41_19, c_m (s41_m (mR _ _) _ _), fails_e (rR _ _) (by omega) (by decide) (by decide), bnd_some]
        exact ⟨_, _, _, rfl, by omega, fun e => absurd e (flt_n _ _ (by decide))⟩
  · have e0 : tsF T n (ω 0) tt p = colF T n (sk T n p) (lo0 (ω 0)) (hi0 (ω 0)) 0 := by unfold tsF; rw [if_pos c]
    rw [if_pos c, l30 _ _ _ (by omega), e0]
    exact ⟨_, _, _, rfl, by omega, fun e => absurd e c⟩
end N2
