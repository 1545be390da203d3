/-! Level 2: the reference reads a query, on -/
section N3
variable {K H : AH} {n p q : Nat} {φ t : Int} {T : Nat → Int} {ω ω' : Nat → Int}
theorem tsF_p {s : Int} {tt : Nat} : 0 ≤ tsF T n s tt p := by
  have f4 := flt_p (sk T n p) (k := 4) (by decide)
  have f0 := flt_p (sk T n (sk T n p + 1)) (k := 0) (by decide)
  have c := colF_p (T := T) (n := n) (lo := lo0 s) (hi := hi0 s) (sk T n p)
  unfold tsF
  split
  · exact c
  · split
    · omega
    · split
      · exact nmF_p (by decide)
      · omega
theorem tsW_B (hB : QB1 ω) {s : Int} {tt : Nat} (e : tsF T n s tt p = 0) : QB1 (tsW T n p ω) := by
  obtain ⟨h1, h2, h3, h4⟩ := tsF_0 e
  obtain ⟨c, hc, ec⟩ := colF_c h1
  obtain ⟨-, v1, v2⟩ := nmF_0 h4
  unfold tsW
  rw [ec, tN (c : Int) c rfl]
  exact nrw_B hB hc _ _ ⟨v1, v2⟩
theorem tlS_B {s : Int} : ∀ (m p t : Nat) (ω : Nat → Int), QB1 ω → (tlS T n s m p t ω).1 = 0 → QB1 (tlS T n s m p t ω).2.2.2
  | 0, p, t, ω, _, e => absurd (show (1 : Int) = 0 from e) (by decide)
  | m + 1, p, t, ω, hB, e => by
    rw [tlS] at e ⊢
    by_cases c : tsF T n s t p = 0
    · have b := tsW_B hB c
      rw [if_neg (by simpa using c)] at e ⊢
      by_cases d : isW T n (sk T n (tsP T n p)) 6 = true
      · rw [if_pos d] at e ⊢
        exact tlS_B m _ _ _ b e
      · rw [if_neg d]
        exact b
    · rw [if_pos c] at e; exact absurd e c
theorem tlS_q {s : Int} : ∀ (m p t : Nat) (ω : Nat → Int), 0 ≤ (tlS T n s m p t ω).1
  | 0, p, t, ω => by show (0 : Int) ≤ 1; decide
  | m + 1, p, t, ω => by
    rw [tlS]
    split
    · exact tsF_p
    · split
      · exact tlS_q m _ _ _
      · exact Int.le_refl _
/-- the reference reads tests -/
theorem testsPart_L (hq : q < 8) (r : RDM K n T) {s : Int} : ∀ (m p tt fuel : Nat) (ω : Nat → Int), 12 ≤ tt + m → tt ≤ 12 → p ≤ 400 → m + 1 < fuel → ω 0 = s → QB1 ω → ∃ p' ω' t', (bnd (Mod_testPart 401 (S41 (R4 K q ω (tt : Int)) p 0)) fun _ h1 => Mod_testsPart_L4 fuel 401 h1) = some ((), S41 (R4 K q ω' t') p' (tlS T n s (m + 1) p tt ω).1) ∧ p' ≤ 400 ∧ ((tlS T n s (m + 1) p tt ω).1 = 0 → p' = (tlS T n s (m + 1) p tt ω).2.1 ∧ t' = ((tlS T n s (m + 1) p tt ω).2.2.1 : Int) ∧ ω' = (tlS T n s (m + 1) p tt ω).2.2.2) := by
  have rR : ∀ ω t, RDM (R4 K q ω t) n T := fun _ _ => R4_rd r
  have mR : ∀ ω t, MS (R4 K q ω t) := fun _ _ => (R4_rd r).1
  have r5 := r.2.2.1
  have bad : ∀ (fuel p : Nat) (φ t : Int) (ω : Nat → Int), p ≤ 400 → φ ≠ 0 → Mod_testsPart_L4 (fuel + 1) 401 (S41 (R4 K q ω t) p φ) = some ((), S41 (R4 K q ω t) p φ) := fun fuel p φ t ω hp h => by
    rw [Mod_testsPart_L4, c_m (s41_m (mR _ _) _ _), takes_f (rR _ _) (by omega) h, bnd_some, if_pos rfl]
  intro m
  induction m with
  | zero =>
    intro p tt fuel ω h1 h2 hp hf h0 hB
    obtain ⟨fuel, rfl⟩ : ∃ j, fuel = j + 1 := ⟨fuel - 1, by omega⟩
    obtain ⟨p', ω', t', x1, x2, x3⟩ := testPart_m hq r hp h2 hB
    rw [h0] at x1
    have c : tsF T n s tt p ≠ 0 := fun e => by have := (tsF_0 e).2.1; omega
    refine ⟨p', ω', t', ?_, x2, fun e => ?_⟩
    · rw [x1, bnd_some, bad _ _ _ _ _ x2 c, tlS, if_pos c]
    · rw [tlS, if_pos c] at e; exact absurd e c
  | succ m ih =>
    intro p tt fuel ω h1 h2 hp hf h0 hB
    obtain ⟨fuel, rfl⟩ : ∃ j, fuel = j + 1 := ⟨fuel - 1, by omega⟩
    obtain ⟨p', ω', t', x1, x2, x3⟩ := testPart_m hq r hp h2 hB
    rw [h0] at x1 x3
    by_cases c : tsF T n s tt p = 0
    · obtain ⟨y1, y2, y3⟩ := x3 c
      have t12 := (tsF_0 c).2.1
      have sb := sk_b T n (tsP T n p)
      have tb := tsP_b r5 c
      have tk := takes_m (rR (tsW T n p ω) ((tt + 1 : Nat) : Int)) (p := tsP T n p) (by omega) (w := 6) (by decide)
      rw [x1, bnd_some, c, y1, y2, y3, Mod_testsPart_L4, c_m (s41_m (mR _ _) _ _), tk]
      by_cases d : isW T n (sk T n (tsP T n p)) 6 = true
      · have ib := isW_b (by decide) d
        rw [show sLn 6 = 3 from rfl] at ib
        have e0 : tlS T n s (m + 1 + 1) p tt ω = tlS T n s (m + 1) (sk T n (tsP T n p) + 3) (tt + 1) (tsW T n p ω) := by
          rw [tlS, if_neg (by simpa using c), if_pos d]
        obtain ⟨p2, ω2, t2, z1, z2, z3⟩ := ih (sk T n (tsP T n p) + 3) (tt + 1) fuel (tsW T n p ω) (by omega) (by omega) (by omega) (by omega) (by rw [tsW_0 c (by omega)]; exact h0) (tsW_B hB c)
        rw [e0]
        refine ⟨p2, ω2, t2, ?_, z2, z3⟩
        rw [if_pos d, bnd_some, if_neg (by decide), c_m (s41_m (mR _ _) _ _), show sLn 6 = 3 from rfl, z1]
      · have e0 : tlS T n s (m + 1 + 1) p tt ω = (0, sk T n (tsP T n p), tt + 1, tsW T n p ω) := by
          rw [tlS, if_neg (by simpa using c), if_neg d]
        rw [e0, if_neg d, bnd_some, if_pos rfl]
        exact ⟨sk T n (tsP T n p), tsW T n p ω, ((tt + 1 : Nat) : Int), rfl, by omega, fun _ => ⟨rfl, rfl, rfl⟩⟩
    · have e0 : tlS T n s (m + 1 + 1) p tt ω = (tsF T n s tt p, p, tt, ω) := by rw [tlS, if_pos c]
      rw [e0, x1, bnd_some, bad _ _ _ _ _ x2 c]
      exact ⟨p', ω', t', rfl, x2, fun e => absurd (show tsF T n s tt p = 0 from e) c⟩
theorem shL_B {s : Int} : ∀ (m p k : Nat) (ω : Nat → Int), QB1 ω → (shL T n s m p k ω).1 = 0 → QB1 (shL T n s m p k ω).2.2
  | 0, p, k, ω, _, e => absurd (show (1 : Int) = 0 from e) (by decide)
  | m + 1, p, k, ω, hB, e => by
    rw [shL] at e ⊢
    by_cases c : colF T n (sk T n p) (lo0 s) (hi0 s) 0 = 0
    · have b : QB1 (shW T (sk T n p) k ω) := by
        unfold shW
        refine ⟨by rw [u1_n (by omega), u1_n (by omega)]; exact hB.1, fun d hd => ?_⟩
        rw [u1_n (by omega), u1_n (by omega), u1_n (by omega), u1_n (by omega)]
        exact hB.2 d hd
      rw [if_neg (by simpa using c)] at e ⊢
      by_cases k5 : k = 5
      · rw [if_pos k5] at e; exact absurd (show flt 0 (sk T n p) 4 = 0 from e) (flt_n _ _ (by decide))
      · rw [if_neg k5] at e ⊢
        by_cases d : sk T n (sk T n p + 1) < n ∧ T (sk T n (sk T n p + 1)) = 44
        · rw [if_pos d] at e ⊢
          exact shL_B m _ _ _ b e
        · rw [if_neg d]
          exact b
    · rw [if_pos c] at e; exact absurd e c
theorem shN_B (hB : QB1 ω) : QB1 (shN ω) := by
  have s0 : ∀ w, w < 13 → shN ω w = ω w := fun w hw => by unfold shN; rw [if_neg (by omega), if_neg (by omega)]
  refine ⟨by rw [s0 0 (by decide)]; exact hB.1, fun d hd => ?_⟩
  rw [s0 _ (by omega), s0 _ (by omega)]
  exact hB.2 d hd
theorem ix_w {c : Nat} (hq : q < 8) (hc : c ≤ 5) : wr (wr (5 * (q : Int)) + (c : Int)) = ((5 * q + c : Nat) : Int) := by
  rw [wr_id (z := 5 * (q : Int)) (by omega) (by omega), wr_id (by omega) (by omega)]; omega
/-- the reference reads what is shown -/
theorem showPart_L (hq : q < 8) (r : RDM K n T) {s : Int} (hs : s = 0 ∨ s = 1 ∨ s = 2) : ∀ (m k p fuel : Nat) (ω : Nat → Int), k + (m + 1) = 6 → p ≤ 400 → m + 2 < fuel → ω 0 = s → ω 13 = (k : Int) → ∃ p' ω', Mod_showPart_L12 fuel 401 1 (S41 (R4 K q ω t) p 0) = some ((), S41 (R4 K q ω' t) p' (shL T n s (m + 1) p k ω).1) ∧ p' ≤ 400 ∧ ((shL T n s (m + 1) p k ω).1 = 0 → p' = (shL T n s (m + 1) p k ω).2.1 ∧ ω' = (shL T n s (m + 1) p k ω).2.2) := by
  have rR : ∀ ω t, RDM (R4 K q ω t) n T := fun _ _ => R4_rd r
  have mR : ∀ ω t, MS (R4 K q ω t) := fun _ _ => (R4_rd r).1
  have r5 := r.2.2.1
  have l50 : ∀ (k12 : Nat → Int → AH → Option (Unit × AH)) (φ v : Int) (p : Nat) (ω : Nat → Int), 0 < φ → Mod_showPart_L50 k12 401 v (S41 (R4 K q ω t) p φ) = some ((), S41 (R4 K q ω t) p φ) := fun k12 φ v p ω h => by
    unfold Mod_showPart_L50
    rw [g_m (s41_m (mR _ _) _ _), s41_20, if_neg (by omega)]
  have head : ∀ (fuel k p : Nat) (ω : Nat → Int), p ≤ 400 → ω 0 = s → ω 13 = (k : Int) → Mod_showPart_L12 (fuel + 1) 401 1 (S41 (R4 K q ω t) p 0) = if colF T n (sk T n p) (lo0 s) (hi0 s) 0 ≠ 0 then some ((), S41 (R4 K q ω t) (sk T n p) (colF T n (sk T n p) (lo0 s) (hi0 s) 0)) else if k = 5 then some ((), S41 (R4 K q ω t) (sk T n p) (flt 0 (sk T n p) 4)) else Mod_showPart_L50 (Mod_showPart_L12 fuel) 401 (T (sk T n p) - 97) (S41 (R4 K q ω t) (sk T n p) 0) := fun fuel k p ω hp h0 h13 => by
    have qb := sk_b T n p
    have cp := colF_p (T := T) (n := n) (lo := lo0 s) (hi := hi0 s) (sk T n p)
    rw [Mod_showPart_L12, if_neg (by decide), c_m (s41_m (mR _ _) _ _), columnOf_m hq r (by omega) (by rw [h0]; exact hs), bnd_some, h0, g_m (s41_m (mR _ _) _ _), s41_20, r_16 (s41_m (mR _ _) _ _), g_m (s41_m (mR _ _) _ _), y_22, a_413 (s41_m (mR _ _) _ _) (by omega) (by omega), tN (q : Int) q rfl, y_413, h13, g_m (s41_m (mR _ _) _ _), s41_19, c_m (s41_m (mR _ _) _ _), fails_e (rR _ _) (by omega) (by decide) (by decide), bnd_some]
    by_cases c : colF T n (sk T n p) (lo0 s) (hi0 s) 0 = 0
    · rw [c, if_pos rfl, if_neg (show ¬ ¬ (0 : Int) = 0 from fun x => x rfl), if_neg (show ¬ (0 : Int) ≠ 0 from fun x => x rfl)]
      by_cases k5 : k = 5
      · rw [if_neg (show ¬ ¬ (k : Int) = 5 by omega), if_pos k5, l50 _ _ _ _ _ (flt_p _ (by decide))]
      · rw [if_pos (show ¬ (k : Int) = 5 by omega), if_neg k5]
    · rw [if_neg c, if_pos c, if_pos c, l50 _ _ _ _ _ (by omega)]
  intro m
  induction m with
  | zero =>
    intro k p fuel ω hk hp hf h0 h13
    obtain ⟨fuel, rfl⟩ : ∃ j, fuel = j + 1 := ⟨fuel - 1, by omega⟩
    have qb := sk_b T n p
    rw [head fuel k p ω hp h0 h13, shL]
    by_cases c : colF T n (sk T n p) (lo0 s) (hi0 s) 0 = 0
    · have c' : ¬ colF T n (sk T n p) (lo0 s) (hi0 s) 0 ≠ 0 := fun x => x c
      rw [if_neg c', if_neg c', if_pos (show k = 5 by omega), if_pos (show k = 5 by omega)]
      exact ⟨_, _, rfl, by omega, fun e => absurd (show flt 0 (sk T n p) 4 = 0 from e) (flt_n _ _ (by decide))⟩
    · rw [if_pos c, if_pos c]
      exact ⟨_, _, rfl, by omega, fun e => absurd (show colF T n (sk T n p) (lo0 s) (hi0 s) 0 = 0 from e) c⟩
  | succ m ih =>
    intro k p fuel ω hk hp hf h0 h13
    obtain ⟨fuel, rfl⟩ : ∃ j, fuel = j + 1 + 1 := ⟨fuel - 2, by omega⟩
    have qb := sk_b T n p
    rw [head (fuel + 1) k p ω hp h0 h13, shL]
    by_cases c : colF T n (sk T n p) (lo0 s) (hi0 s) 0 = 0
    · have q1 := (colF_0 c).2.1
      have sb := sk_b T n (sk T n p + 1)
      have c' : ¬ colF T n (sk T n p) (lo0 s) (hi0 s) 0 ≠ 0 := fun x => x c
      rw [if_neg c', if_neg c', if_neg (show ¬ k = 5 by omega), if_neg (show ¬ k = 5 by omega)]
      have body : ∀ k12 : Nat → Int → AH → Option (Unit × AH), Mod_showPart_L50 k12 401 (T (sk T n p) - 97) (S41 (R4 K q ω t) (sk T n p) 0) = if sk T n (sk T n p + 1) < n ∧ T (sk T n (sk T n p + 1)) = 44 then k12 401 1 (S41 (R4 K q (shW T (sk T n p) k ω) t) (sk T n (sk T n p + 1) + 1) 0) else k12 401 0 (S41 (R4 K q (shW T (sk T n p) k ω) t) (sk T n (sk T n p + 1)) 0) := fun k12 => by
        have m414 : MS (sI (S41 (R4 K q ω t) (sk T n p) 0) 414 (5 * q + k) (T (sk T n p) - 97)) := mR ω t
        have g22 : hI (sI (S41 (R4 K q ω t) (sk T n p) 0) 414 (5 * q + k) (T (sk T n p) - 97)) 401 22 = q := by rw [hI_sIn _ _ (by decide), y_22]
        have g13 : hI (sI (S41 (R4 K q ω t) (sk T n p) 0) 414 (5 * q + k) (T (sk T n p) - 97)) 413 q = (k : Int) := by rw [hI_sIn _ _ (by decide), y_413, h13]
        unfold Mod_showPart_L50
        rw [g_m (s41_m (mR _ _) _ _), s41_20, if_pos (by decide), r_17 (s41_m (mR _ _) _ _), g_m (s41_m (mR _ _) _ _), y_22, r_16 (s41_m (mR _ _) _ _), g_m (s41_m (mR _ _) _ _), y_22, a_413 (s41_m (mR _ _) _ _) (by omega) (by omega), tN (q : Int) q rfl, y_413, h13, ix_w hq (show k ≤ 5 by omega), w_414 (s41_m (mR _ _) _ _) (by omega) (by omega), tN ((5 * q + k : Nat) : Int) _ rfl, r_16 m414, g_m m414, g22, a_413 m414 (by omega) (by omega), tN (q : Int) q rfl, g13, w_413 m414 (by omega) (by omega), tN (q : Int) q rfl, wr_id (z := (k : Int) + 1) (by omega) (by omega), z_show (by omega) h13, show u1 (u1 ω (14 + k) (T (sk T n p) - 97)) 13 ((k : Int) + 1) = shW T (sk T n p) k ω from rfl, g_m (s41_m (mR _ _) _ _), s41_19, p_m (s41_m (mR _ _) _ _), wr_id (by omega) (by omega), show ((sk T n p : Nat) : Int) + 1 = ((sk T n p + 1 : Nat) : Int) by omega, s41_p, c_m (s41_m (mR _ _) _ _), sign_e (rR _ _) (by omega), bnd_some]
        unfold Mod_showPart_L117
        rw [g_m (s41_m (mR _ _) _ _), s41_19, if_pos rfl, p_m (s41_m (mR _ _) _ _), wr_id (z := ((sk T n (sk T n p + 1) : Nat) : Int) + 0) (by omega) (by omega), Int.add_zero, s41_p, g_m (s41_m (mR _ _) _ _), s41_19, if_neg (show ¬ (1 : Int) = 0 by decide), p_m (s41_m (mR _ _) _ _), wr_id (by omega) (by omega), show ((sk T n (sk T n p + 1) : Nat) : Int) + 1 = ((sk T n (sk T n p + 1) + 1 : Nat) : Int) by omega, s41_p]
        by_cases d : sk T n (sk T n p + 1) < n ∧ T (sk T n (sk T n p + 1)) = 44
        · rw [if_pos d, if_pos d.1, if_neg (show ¬ ¬ T (sk T n (sk T n p + 1)) = 44 from fun x => x d.2)]
        · have nn : ¬ (if sk T n (sk T n p + 1) < n then T (sk T n (sk T n p + 1)) else -1) = 44 := by
            split <;> omega
          rw [if_neg d, if_pos nn]
      rw [body]
      by_cases d : sk T n (sk T n p + 1) < n ∧ T (sk T n (sk T n p + 1)) = 44
      · rw [if_pos d, if_pos d]
        exact ih (k + 1) (sk T n (sk T n p + 1) + 1) (fuel + 1) (shW T (sk T n p) k ω) (by omega) (by omega) (by omega) (by unfold shW; rw [u1_n (by omega), u1_n (by omega)]; exact h0) (by unfold shW; rw [u1_s]; omega)
      · rw [if_neg d, if_neg d, Mod_showPart_L12, if_pos rfl]
        exact ⟨_, _, rfl, by omega, fun _ => ⟨rfl, rfl⟩⟩
    · rw [if_pos c, if_pos c]
      exact ⟨_, _, rfl, by omega, fun e => absurd (show colF T n (sk T n p) (lo0 s) (hi0 s) 0 = 0 from e) c⟩
theorem shL_q {s : Int} : ∀ (m p k : Nat) (ω : Nat → Int), 0 ≤ (shL T n s m p k ω).1
  | 0, p, k, ω => by show (0 : Int) ≤ 1; decide
  | m + 1, p, k, ω => by
    rw [shL]
    split
    · exact colF_p _
    · split
      · have := flt_p (sk T n p) (k := 4) (by decide)
        show 0 ≤ flt 0 (sk T n p) 4; omega
      · split
        · exact shL_q m _ _ _
        · exact Int.le_refl _
theorem stS_q {s : Int} : ∀ (m p t : Nat) (ω : Nat → Int), 0 ≤ (stS T n s m p t ω).1
  | 0, p, t, ω => by show (0 : Int) ≤ 1; decide
  | m + 1, p, t, ω => by
    rw [stS]
    split
    · split
      · exact tlS_q _ _ _ _
      · exact stS_q m _ _ _
    · split
      · split
        · exact shL_q _ _ _ _
        · exact stS_q m _ _ _
      · split
        · have := flt_p (sk T n p) (k := 0) (by decide)
          show 0 ≤ flt 0 (sk T n p) 0; omega
        · exact Int.le_refl _
/-- the reference reads all steps -/
theorem steps_L (hq : q < 8) {s : Int} (hs : s = 0 ∨ s = 1 ∨ s = 2) : ∀ (m p tt fuel : Nat) (K : AH) (ω : Nat → Int), RDM K n T → n - p < m → p ≤ 400 → m + 1 < fuel → tt ≤ 12 → ω 0 = s → QB1 ω → ∃ K' p' ω' t', Mod_stepsPart_L0 fuel 401 (S41 (R4 K q ω (tt : Int)) p 0) = some ((), S41 (R4 K' q ω' t') p' (stS T n s m p tt ω).1) ∧ FQ q K K' ∧ ((stS T n s m p tt ω).1 = 0 → ω' = (stS T n s m p tt ω).2 ∧ QB1 ω') := by
  have big := FU_big
  intro m
  induction m with
  | zero => intro p tt fuel K ω r h1; omega
  | succ m ih =>
    intro p tt fuel K ω r h1 hp hf h12 h0 hB
    have rR : ∀ ω t, RDM (R4 K q ω t) n T := fun _ _ => R4_rd r
    have mR : ∀ ω t, MS (R4 K q ω t) := fun _ _ => (R4_rd r).1
    have r5 := r.2.2.1
    obtain ⟨fuel, rfl⟩ : ∃ j, fuel = j + 1 + 1 := ⟨fuel - 2, by omega⟩
    have qb := sk_b T n p
    have qi := sk_i T n _ p rfl
    have stop : ∀ (K : AH) (fuel p : Nat) (φ t : Int) (ω : Nat → Int), MS K → φ ≠ 0 → Mod_stepsPart_L0 (fuel + 1) 401 (S41 (R4 K q ω t) p φ) = some ((), S41 (R4 K q ω t) p φ) := fun K fuel p φ t ω m h => by
      rw [Mod_stepsPart_L0, g_m (s41_m (K := R4 K q ω t) m _ _), s41_20, if_pos h]
    have w5 := takes_m (rR ω (tt : Int)) (p := sk T n p) (by omega) (w := 5) (by decide)
    have w7 := takes_m (rR ω (tt : Int)) (p := sk T n p) (by omega) (w := 7) (by decide)
    rw [qi] at w5 w7
    rw [show sLn 5 = 2 from rfl] at w5
    rw [show sLn 7 = 4 from rfl] at w7
    rw [Mod_stepsPart_L0, g_m (s41_m (mR _ _) _ _), s41_20, if_neg (by simp), c_m (s41_m (mR _ _) _ _), sign_e (rR _ _) (by omega), bnd_some, stS]
    by_cases c : sk T n p < n
    · have tz := r.2.2.2 (sk T n p) c
      rw [if_pos c, if_neg (show ¬ T (sk T n p) = -1 by omega), c_m (s41_m (mR _ _) _ _), w5]
      by_cases c5 : isW T n (sk T n p) 5 = true
      · have ib := isW_b (by decide) c5
        rw [show sLn 5 = 2 from rfl] at ib
        obtain ⟨p', ω', t', x1, x2, x3⟩ := testsPart_L hq r (s := s) 12 (sk T n p + 2) tt FU ω (by omega) h12 (by omega) (by omega) h0 hB
        have x1' : Mod_testsPart 401 (S41 (R4 K q ω (tt : Int)) (sk T n p + 2) 0) = some ((), S41 (R4 K q ω' t') p' (tlS T n s 13 (sk T n p + 2) tt ω).1) := by
          unfold Mod_testsPart
          rw [c_m (s41_m (mR _ _) _ _)]
          exact x1
        have x3' : (tlS T n s 13 (sk T n p + 2) tt ω).1 = 0 → p' = (tlS T n s 13 (sk T n p + 2) tt ω).2.1 ∧ t' = ((tlS T n s 13 (sk T n p + 2) tt ω).2.2.1 : Int) ∧ ω' = (tlS T n s 13 (sk T n p + 2) tt ω).2.2.2 := x3
        have tp := tlS_p (T := T) r5 (s := s) 13 (sk T n p + 2) tt ω
        have tB := tlS_B (T := T) (n := n) (s := s) 13 (sk T n p + 2) tt ω hB
        rw [if_pos c5, if_pos c5, bnd_some, if_neg (by decide), c_m (s41_m (mR _ _) _ _), x1', bnd_some]
        generalize tlS T n s 13 (sk T n p + 2) tt ω = R at *
        by_cases z : R.1 = 0
        · obtain ⟨y1, y2, y3⟩ := x3' z
          obtain ⟨v1, v2, v3⟩ := tp z
          rw [z, y1, y2, y3, if_neg (by simp)]
          exact ih R.2.1 R.2.2.1 (fuel + 1) K R.2.2.2 r (by omega) (by omega) (by omega) v2 (by rw [v3 0 (by omega)]; exact h0) (tB z)
        · rw [if_pos z, stop K _ _ _ _ _ r.1 z]
          exact ⟨K, p', ω', t', rfl, FQ.refl q K, fun e => absurd (show R.1 = 0 from e) z⟩
      · rw [if_neg c5, if_neg c5, bnd_some, if_pos rfl, c_m (s41_m (mR _ _) _ _), w7]
        by_cases c7 : isW T n (sk T n p) 7 = true
        · have ib := isW_b (by decide) c7
          rw [show sLn 7 = 4 from rfl] at ib
          have rK : RDM (R4 K q ω (tt : Int)) n T := rR _ _
          obtain ⟨p', ω', x1, x2, x3⟩ := showPart_L (t := (tt : Int)) hq rK (s := s) hs 5 0 (sk T n p + 4) FU (shN ω) (by omega) (by omega) (by omega) h0 rfl
          have x1' : Mod_showPart 401 (S41 (R4 K q ω (tt : Int)) (sk T n p + 4) 0) = some ((), S41 (R4 (R4 K q ω (tt : Int)) q ω' (tt : Int)) p' (shL T n s 6 (sk T n p + 4) 0 (shN ω)).1) := by
            unfold Mod_showPart
            rw [r_16 (s41_m (mR _ _) _ _), g_m (s41_m (mR _ _) _ _), y_22, w_413 (s41_m (mR _ _) _ _) (by omega) (by omega), tN (q : Int) q rfl, z_none]
            exact x1
          have x3' : (shL T n s 6 (sk T n p + 4) 0 (shN ω)).1 = 0 → p' = (shL T n s 6 (sk T n p + 4) 0 (shN ω)).2.1 ∧ ω' = (shL T n s 6 (sk T n p + 4) 0 (shN ω)).2.2 := x3
          have tp := shL_p (T := T) r5 (s := s) 6 (sk T n p + 4) 0 (shN ω)
          have tB := shL_B (T := T) (n := n) (s := s) 6 (sk T n p + 4) 0 (shN ω) (shN_B hB)
          rw [if_pos c7, if_pos c7, bnd_some, if_neg (by decide), c_m (s41_m (mR _ _) _ _), x1', bnd_some]
          generalize shL T n s 6 (sk T n p + 4) 0 (shN ω) = R at *
          by_cases z : R.1 = 0
          · obtain ⟨y1, y3⟩ := x3' z
            obtain ⟨v1, v3⟩ := tp z
            rw [z, y1, y3, if_neg (by simp)]
            obtain ⟨K', p2, ω2, t2, u1', u2, u3⟩ := ih R.2.1 tt (fuel + 1) (R4 K q ω (tt : Int)) R.2.2 rK (by omega) (by omega) (by omega) h12 (by rw [v3]; exact h0) (tB z)
            exact ⟨K', p2, ω2, t2, u1', (FQ_R4 K q ω (tt : Int)).trans u2, u3⟩
          · rw [if_pos z, stop (R4 K q ω (tt : Int)) _ _ _ _ _ rK.1 z]
            exact ⟨_, p', ω', (tt : Int), rfl, FQ_R4 K q ω (tt : Int), fun e => absurd (show R.1 = 0 from e) z⟩
        · have f0 := flt_n 0 (sk T n p) (k := 0) (by decide)
          rw [if_neg c7, if_neg c7, bnd_some, if_pos rfl, if_pos c, g_m (s41_m (mR _ _) _ _), s41_19, c_m (s41_m (mR _ _) _ _), fails_e (rR _ _) (by omega) (by decide) (by decide), bnd_some, stop K _ _ _ _ _ r.1 f0]
          exact ⟨K, _, _, _, rfl, FQ.refl q K, fun e => absurd (show flt 0 (sk T n p) 0 = 0 from e) f0⟩
    · have n5 : ¬ isW T n (sk T n p) 5 = true := fun e => by have := isW_b (by decide) e; have l : sLn 5 = 2 := rfl; omega
      have n7 : ¬ isW T n (sk T n p) 7 = true := fun e => by have := isW_b (by decide) e; have l : sLn 7 = 4 := rfl; omega
      rw [if_neg c, if_pos rfl, if_neg n5, if_neg n7, if_neg c]
      exact ⟨K, _, ω, _, rfl, FQ.refl q K, fun _ => ⟨rfl, hB⟩⟩
end N3
