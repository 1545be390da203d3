/-! Level 2: base read by the reference -/
section L8
variable {K H : AH} {n p : Nat} {φ : Int} {T : Nat → Int} {ρ : Nat → Int}
theorem u1_n {g : Nat → Int} {k j : Nat} {v : Int} (hj : j ≠ k) : u1 g k v j = g j := if_neg hj
theorem u1_s {g : Nat → Int} {k : Nat} {v : Int} : u1 g k v k = v := if_pos rfl
theorem NRR_1 (nr : NRR K ρ) (v w : Int) : NRR (sI K 401 6 w) (u1 ρ 1 v) := by
  obtain ⟨a7, a8, aR, aS⟩ := nr
  unfold NRR
  rw [u1_n (by decide), u1_n (by decide), hI_sId _ _ (by decide), hI_sId _ _ (by decide), hI_sIn _ _ (by decide), hI_sIn _ _ (by decide)]
  exact ⟨a7, a8, fun j hj => by rw [u1_n (by omega)]; exact aR j hj, fun j hj => by rw [u1_n (by omega)]; exact aS j hj⟩
theorem rwR_1 (T : Nat → Int) (n p : Nat) (t : Int) (ρ : Nat → Int) : rwR T n p t ρ 1 = ρ 1 := by
  unfold rwR apRow
  by_cases c : t = 0
  · rw [if_pos c, u1_n (by omega), u1_n (by omega), u1_n (by omega), u1_n (by omega)]
  · rw [if_neg c, u1_n (by omega), u1_n (by omega), u1_n (by omega)]
theorem clR_RB (rb : RB ρ) {k : Nat} (e : clF T n k p ρ = 0) : RB (clR T n p ρ) := by
  unfold clF at e
  unfold clR
  have f4 := flt_n 0 (sk T n p) (k := 4) (by decide)
  have f0 := flt_n 0 (sk T n p) (k := 0) (by decide)
  by_cases c1 : isW T n (sk T n p) 1 = true
  · rw [if_pos c1] at e ⊢
    by_cases k0 : k = 0
    · rw [if_pos k0] at e; exact RB_1 rb (nmF_0 e).2
    · rw [if_neg k0] at e; exact absurd e f4
  · rw [if_neg c1] at e ⊢
    by_cases c2 : isW T n (sk T n p) 2 = true
    · rw [if_pos c2] at e ⊢
      by_cases o : (0 < k ∧ k < 40) ∧ ρ 2 < 12
      · rw [if_pos o] at e
        obtain ⟨v1, v2, v3⟩ := rwF_0 (Or.inl rfl) e
        unfold rwR apRow
        rw [if_pos rfl, if_pos rfl]
        exact RB_apR rb o.2 v1 v2 (v3 rfl)
      · rw [if_neg o] at e; exact absurd e f4
    · rw [if_neg c2] at e ⊢
      by_cases c3 : isW T n (sk T n p) 3 = true
      · rw [if_pos c3] at e
        by_cases o : (0 < k ∧ k < 40) ∧ ρ 3 < 8
        · rw [if_pos o] at e
          obtain ⟨v1, v2, v3⟩ := rwF_0 (Or.inr rfl) e
          unfold rwR apRow
          rw [if_neg (show ¬ (1 : Int) = 0 by decide)]
          exact RB_apS rb o.2 v1 v2
        · rw [if_neg o] at e; exact absurd e f4
      · rw [if_neg c3] at e; exact absurd e f0
/-- the reference reads a clause -/
theorem baseClause_e (r : RDM K n T) (nr : NRR K ρ) (rb : RB ρ) (hp : p ≤ 400) {k : Nat} (hk : k ≤ 40) (h6 : 0 < k → hI K 401 6 = ρ 1) : ∃ H p', Mod_baseClause 401 (k : Int) (S41 K p 0) = some ((), S41 H p' (clF T n k p ρ)) ∧ FMM K H ∧ p' ≤ 400 ∧ (clF T n k p ρ = 0 → p' = clP T n p ∧ NRR H (clR T n p ρ) ∧ hI H 401 6 = clR T n p ρ 1) := by
  have m := r.1
  have r5 := r.2.2.1
  have qb := sk_b T n p
  have qi := sk_i T n _ p rfl
  have l1 : sLn 1 = 4 := rfl
  have l2 : sLn 2 = 1 := rfl
  have l3 : sLn 3 = 1 := rfl
  have i1 := fun e => isW_b (T := T) (n := n) (q := sk T n p) (w := 1) (by decide) e
  have i2 := fun e => isW_b (T := T) (n := n) (q := sk T n p) (w := 2) (by decide) e
  have i3 := fun e => isW_b (T := T) (n := n) (q := sk T n p) (w := 3) (by decide) e
  have w1 := stood_e r (p := sk T n p) (by omega) 0 (w := 1) (by decide)
  have w2 := stood_e r (p := sk T n p) (by omega) 0 (w := 2) (by decide)
  have w3 := stood_e r (p := sk T n p) (by omega) 0 (w := 3) (by decide)
  rw [qi] at w1 w2 w3
  rw [l1] at i1
  rw [l2] at i2
  rw [l3] at i3
  have a7 := nr.1
  have a8 := nr.2.1
  unfold clF clP clR Mod_baseClause
  rw [c_m (s41_m m _ _), sign_e r (by omega), bnd_some]
  generalize hq : sk T n p = q at *
  have d12 : isW T n q 1 = true → isW T n q 2 = false := fun e => by
    unfold isW at e ⊢
    rw [Bool.and_eq_true, decide_eq_true_eq] at e
    rw [decide_eq_false (by omega), Bool.false_and]
  rw [g_m (s41_m m _ _), s41_19, c_m (s41_m m _ _), w1, bnd_some, c_m (s41_m m _ _), w2, bnd_some, ite_nbi, ite_nbi, c_m (s41_m m _ _), w3, bnd_some, ite_nbi, c_m (s41_m m _ _), fails_e r (by omega) (by decide) (by decide), bnd_some]
  by_cases c1 : isW T n q 1 = true
  · have := i1 c1
    have c2 := d12 c1
    rw [if_pos c1, if_pos c1, if_pos c1, if_pos c1, c1, c2, bi_t, bi_f]
    unfold Mod_baseClause_L50 Mod_baseClause_L85
    rw [if_pos (by decide)]
    by_cases k0 : k = 0
    · have ma := amount_0 (K := K) r (p := q + 4) (by omega) 99
      obtain ⟨p', v, x1, x2, x3⟩ := ma
      rw [if_neg (by omega), if_neg (by omega)]
      unfold Mod_baseClause_L103 Mod_baseClause_L132
      rw [if_neg (by decide), if_pos (by decide), g_m (s41_m m _ _), s41_19, if_neg (by decide), p_m (s41_m m _ _), wr_id (by omega) (by omega), show (q : Int) + 4 = ((q + 4 : Nat) : Int) by omega, s41_p, if_neg (by decide), c_m (s41_m m _ _), x1, bnd_some, p_m (s41_m m _ _), s41_v (by decide) (by decide), if_pos k0]
      refine ⟨sI K 401 6 v, p', rfl, FMM_v (by omega) _, x2, fun e => ?_⟩
      obtain ⟨y1, y2⟩ := x3 e
      exact ⟨y1, NRR_1 nr _ _, by rw [hI_sIs, u1_s, y2]⟩
    · refine ⟨K, q, ?_, FMM.refl K, by omega, fun e => ?_⟩
      · rw [if_neg k0]
        by_cases k4 : (k : Int) = 40
        · rw [if_pos k4, c_m (s41_m m _ _), fails_e r (by omega) (by decide) (by decide), bnd_some]
        · rw [if_neg k4, if_pos (by omega)]
          unfold Mod_baseClause_L103
          rw [if_pos (by decide), c_m (s41_m m _ _), fails_e r (by omega) (by decide) (by decide), bnd_some]
      · rw [if_neg k0] at e; exact absurd e (flt_n _ _ (by decide))
  · rw [if_neg c1, if_neg c1, if_neg c1, if_neg c1, Bool.eq_false_iff.mpr c1, bi_f]
    by_cases c2 : isW T n q 2 = true
    · have := i2 c2
      rw [if_pos c2, if_pos c2, if_pos c2, if_pos c2, c2, bi_t]
      have fl : ∀ s0 : Int, ((k : Int) = 40 ∨ k = 0 ∨ s0 = 0) → Mod_baseClause_L85 401 (k : Int) (q : Int) 0 1 s0 (S41 K q 0) = some ((), S41 K q (flt 0 q 4)) := fun s0 hs => by
        unfold Mod_baseClause_L85 Mod_baseClause_L103
        rw [c_m (s41_m m _ _), fails_e r (by omega) (by decide) (by decide), bnd_some]
        by_cases k4 : (k : Int) = 40
        · rw [if_pos k4]
        · rw [if_neg k4]
          by_cases k0 : k = 0
          · rw [if_neg (by omega), if_pos (by decide)]
          · rw [if_pos (by omega), if_neg (by decide), if_neg (by omega)]
      unfold Mod_baseClause_L50
      rw [if_neg (by decide), if_neg (by decide), g_m (s41_m m _ _), s41_o (by decide) (by decide), a7]
      by_cases o : (0 < k ∧ k < 40) ∧ ρ 2 < 12
      · rw [if_neg (by omega), if_pos o]
        obtain ⟨H, p', x1, x2, x3, x4, x5⟩ := rowPart_R r nr rb (p := q + 1) (by omega) o.2
        unfold Mod_baseClause_L85
        rw [if_neg (by omega), if_pos (by omega)]
        unfold Mod_baseClause_L103 Mod_baseClause_L132
        rw [if_neg (by decide), if_pos (by decide), g_m (s41_m m _ _), s41_19, if_pos (by decide), p_m (s41_m m _ _), wr_id (by omega) (by omega), show (q : Int) + 1 = ((q + 1 : Nat) : Int) by omega, s41_p, if_pos (by decide), c_m (s41_m m _ _), x1, bnd_some]
        refine ⟨H, p', rfl, x2, x4, fun e => ?_⟩
        obtain ⟨y1, y2⟩ := x5 e
        exact ⟨y1, y2, by rw [x3, rwR_1]; exact h6 o.1.1⟩
      · rw [if_neg o]
        refine ⟨K, q, ?_, FMM.refl K, by omega, fun e => absurd e (flt_n _ _ (by decide))⟩
        by_cases z : (12 : Int) ≤ ρ 2
        · rw [if_pos z, fl 0 (by omega)]
        · rw [if_neg z, fl 1 (by omega)]
    · rw [if_neg c2, if_neg c2, if_neg c2, if_neg c2, Bool.eq_false_iff.mpr c2, bi_f]
      by_cases c3 : isW T n q 3 = true
      · have := i3 c3
        rw [if_pos c3, if_pos c3]
        have fl : ∀ s0 : Int, ((k : Int) = 40 ∨ k = 0 ∨ s0 = 0) → Mod_baseClause_L85 401 (k : Int) (q : Int) 0 0 s0 (S41 K q 0) = some ((), S41 K q (flt 0 q 4)) := fun s0 hs => by
          unfold Mod_baseClause_L85 Mod_baseClause_L103
          rw [c_m (s41_m m _ _), fails_e r (by omega) (by decide) (by decide), bnd_some]
          by_cases k4 : (k : Int) = 40
          · rw [if_pos k4]
          · rw [if_neg k4]
            by_cases k0 : k = 0
            · rw [if_neg (by omega), if_pos (by decide)]
            · rw [if_pos (by omega), if_neg (by decide), if_neg (by omega)]
        unfold Mod_baseClause_L50
        rw [if_neg (by decide), if_pos (by decide), g_m (s41_m m _ _), s41_o (by decide) (by decide), a8]
        by_cases o : (0 < k ∧ k < 40) ∧ ρ 3 < 8
        · rw [if_neg (by omega), if_pos o]
          obtain ⟨H, p', x1, x2, x3, x4, x5⟩ := rowPart_S r nr rb (p := q + 1) (by omega) o.2
          unfold Mod_baseClause_L85
          rw [if_neg (by omega), if_pos (by omega)]
          unfold Mod_baseClause_L103 Mod_baseClause_L132
          rw [if_neg (by decide), if_pos (by decide), g_m (s41_m m _ _), s41_19, if_pos (by decide), p_m (s41_m m _ _), wr_id (by omega) (by omega), show (q : Int) + 1 = ((q + 1 : Nat) : Int) by omega, s41_p, if_pos (by decide), c_m (s41_m m _ _), x1, bnd_some]
          refine ⟨H, p', rfl, x2, x4, fun e => ?_⟩
          obtain ⟨y1, y2⟩ := x5 e
          exact ⟨y1, y2, by rw [x3, rwR_1]; exact h6 o.1.1⟩
        · rw [if_neg o]
          refine ⟨K, q, ?_, FMM.refl K, by omega, fun e => absurd e (flt_n _ _ (by decide))⟩
          by_cases z : (8 : Int) ≤ ρ 3
          · rw [if_pos z, fl 0 (by omega)]
          · rw [if_neg z, fl 1 (by omega)]
      · rw [if_neg c3, if_neg c3]
        exact ⟨K, q, rfl, FMM.refl K, by omega, fun e => absurd e (flt_n _ _ (by decide))⟩
theorem isMore_f (r : RDM K n T) (hφ : 0 < φ) (p : Nat) : Mod_isMore 401 (S41 K p φ) = some (0, S41 K p φ) := by
  unfold Mod_isMore
  rw [g_m (s41_m r.1 _ _), s41_20, if_neg (by omega)]
theorem isMore_0 (r : RDM K n T) (hp : p ≤ 400) : Mod_isMore 401 (S41 K p 0) = if sk T n p < n ∧ T (sk T n p) = 59 then some (1, S41 K (sk T n p + 1) 0) else if sk T n p < n then some (0, S41 K (sk T n p + 1) (flt 0 (sk T n p) 0)) else some (0, S41 K (sk T n p + 1) 0) := by
  have m := r.1
  have r5 := r.2.2.1
  have qb := sk_b T n p
  unfold Mod_isMore
  rw [g_m (s41_m m _ _), s41_20, if_pos (by decide), c_m (s41_m m _ _), sign_e r (by omega), bnd_some]
  generalize sk T n p = q at *
  have l : ∀ (v φ : Int), Mod_isMore_L34 401 v (S41 K q φ) = if v = 59 then some (1, S41 K (q + 1) φ) else some (0, S41 K (q + 1) φ) := fun v φ => by
    unfold Mod_isMore_L34
    rw [g_m (s41_m m _ _), s41_19, p_m (s41_m m _ _), wr_id (by omega) (by omega), show (q : Int) + 1 = ((q + 1 : Nat) : Int) by omega, s41_p]
    by_cases c : v = 59
    · rw [if_pos c, if_neg (by omega)]
    · rw [if_neg c, if_pos c]
  rw [l, g_m (s41_m m _ _), s41_19, c_m (s41_m m _ _), fails_e r (by omega) (by decide) (by decide), bnd_some, l]
  by_cases c : q < n
  · have tb := r.2.2.2 q c
    rw [if_pos c, if_neg (by omega)]
    by_cases d : T q = 59
    · rw [if_pos d, if_pos d, if_pos ⟨c, d⟩]
    · rw [if_neg d, if_neg d, if_neg (fun x => d x.2), if_pos c]
  · rw [if_neg c, if_pos rfl, if_neg (by decide), if_neg (fun x => c x.1), if_neg c]
theorem flt_p (q : Nat) {k : Int} (hk : 0 ≤ k) : 0 < flt 0 q k := by
  unfold flt; rw [if_pos rfl]; omega
theorem nmF_p {top φ : Int} (h : 0 ≤ φ) : 0 ≤ nmF T n p top φ := by
  unfold nmF nFl flt
  repeat' split
  all_goals omega
theorem clF_p (k : Nat) : 0 ≤ clF T n k p ρ := by
  have f4 := flt_p (sk T n p) (k := 4) (by decide)
  have f0 := flt_p (sk T n p) (k := 0) (by decide)
  have rp : ∀ (p : Nat) (t : Int), 0 ≤ rwF T n p t := fun p t => by
    unfold rwF
    split
    · exact nmF_p (nmF_p (nmF_p (by decide)))
    · exact nmF_p (nmF_p (by decide))
  unfold clF
  split
  · split
    · exact nmF_p (by decide)
    · omega
  · split
    · split
      · exact rp _ _
      · omega
    · split
      · split
        · exact rp _ _
        · omega
      · omega
theorem base_z (f : Nat) (v : Int) (h : AH) : Mod_base_L24 (f + 1) 401 v 0 h = Mod_base_L24 1 401 0 0 h := by
  rw [show (1 : Nat) = 0 + 1 from rfl, Mod_base_L24, Mod_base_L24, if_pos rfl, if_pos rfl]
/-- the reference reads all clauses -/
theorem base_L (hT : n ≤ 400) : ∀ (m k p fuel : Nat) (K : AH) (ρ : Nat → Int), k + (m + 1) = 41 → p ≤ 400 → m + 2 < fuel → RDM K n T → NRR K ρ → RB ρ → (0 < k → hI K 401 6 = ρ 1) → ∃ H p', Mod_base_L24 fuel 401 (k : Int) 1 (S41 K p 0) = Mod_base_L24 1 401 0 0 (S41 H p' (bsS T n (m + 1) k p ρ).1) ∧ FMM K H ∧ 0 ≤ (bsS T n (m + 1) k p ρ).1 ∧ ((bsS T n (m + 1) k p ρ).1 = 0 → NRR H (bsS T n (m + 1) k p ρ).2 ∧ hI H 401 6 = (bsS T n (m + 1) k p ρ).2 1 ∧ RB (bsS T n (m + 1) k p ρ).2) := by
  intro m
  induction m with
  | zero =>
    intro k p fuel K ρ hk hp hf r nr rb h6
    obtain ⟨fuel, rfl⟩ : ∃ j, fuel = j + 1 + 1 := ⟨fuel - 2, by omega⟩
    obtain ⟨H, p', x1, x2, x3, x4⟩ := baseClause_e r nr rb hp (k := k) (by omega) h6
    have c : clF T n k p ρ ≠ 0 := fun e => by have := clF_k e (by omega); omega
    have cp : 0 ≤ clF T n k p ρ := clF_p k
    have rH := x2.rd r
    refine ⟨H, p', ?_, x2, ?_, fun e => ?_⟩
    · rw [Mod_base_L24, if_neg (by decide), c_m (s41_m r.1 _ _), x1, bnd_some, c_m (s41_m rH.1 _ _), isMore_f rH (by omega), bnd_some, base_z, bsS, if_pos c]
    · rw [bsS, if_pos c]; exact cp
    · rw [bsS, if_pos c] at e; exact absurd e c
  | succ m ih =>
    intro k p fuel K ρ hk hp hf r nr rb h6
    obtain ⟨fuel, rfl⟩ : ∃ j, fuel = j + 1 + 1 := ⟨fuel - 2, by omega⟩
    obtain ⟨H, p', x1, x2, x3, x4⟩ := baseClause_e r nr rb hp (k := k) (by omega) h6
    have cp : 0 ≤ clF T n k p ρ := clF_p k
    have rH := x2.rd r
    by_cases c : clF T n k p ρ = 0
    · obtain ⟨y1, y2, y3⟩ := x4 c
      have rb2 := clR_RB rb c
      rw [c] at x1
      rw [y1] at x1 x3
      have im := isMore_0 rH (p := clP T n p) x3
      have qb := sk_b T n (clP T n p)
      by_cases d : sk T n (clP T n p) < n ∧ T (sk T n (clP T n p)) = 59
      · rw [if_pos d] at im
        have eB : bsS T n (m + 1 + 1) k p ρ = bsS T n (m + 1) (k + 1) (sk T n (clP T n p) + 1) (clR T n p ρ) := by
          rw [bsS, if_neg (by simpa using c), if_pos d]
        obtain ⟨H2, p2, z1, z2, z3, z4⟩ := ih (k + 1) (sk T n (clP T n p) + 1) (fuel + 1) H (clR T n p ρ) (by omega) (by omega) (by omega) rH y2 rb2 (fun _ => y3)
        rw [eB]
        refine ⟨H2, p2, ?_, x2.trans z2, z3, z4⟩
        rw [Mod_base_L24, if_neg (by decide), c_m (s41_m r.1 _ _), x1, bnd_some, c_m (s41_m rH.1 _ _), im, bnd_some, wr_id (by omega) (by omega), show (k : Int) + 1 = ((k + 1 : Nat) : Int) by omega, z1]
      · rw [if_neg d] at im
        by_cases e1 : sk T n (clP T n p) < n
        · rw [if_pos e1] at im
          have eB : bsS T n (m + 1 + 1) k p ρ = (flt 0 (sk T n (clP T n p)) 0, ρ) := by
            rw [bsS, if_neg (by simpa using c), if_neg d, if_pos e1]
          have fp := flt_p (sk T n (clP T n p)) (k := 0) (by decide)
          rw [eB]
          refine ⟨H, sk T n (clP T n p) + 1, ?_, x2, by show 0 ≤ flt 0 (sk T n (clP T n p)) 0; omega, fun e => ?_⟩
          · rw [Mod_base_L24, if_neg (by decide), c_m (s41_m r.1 _ _), x1, bnd_some, c_m (s41_m rH.1 _ _), im, bnd_some, base_z]
          · have e' : flt 0 (sk T n (clP T n p)) 0 = 0 := e
            omega
        · rw [if_neg e1] at im
          have eB : bsS T n (m + 1 + 1) k p ρ = (0, clR T n p ρ) := by
            rw [bsS, if_neg (by simpa using c), if_neg d, if_neg e1]
          rw [eB]
          refine ⟨H, sk T n (clP T n p) + 1, ?_, x2, Int.le_refl _, fun _ => ⟨y2, y3, rb2⟩⟩
          rw [Mod_base_L24, if_neg (by decide), c_m (s41_m r.1 _ _), x1, bnd_some, c_m (s41_m rH.1 _ _), im, bnd_some, base_z]
    · have eB : bsS T n (m + 1 + 1) k p ρ = (clF T n k p ρ, ρ) := by
        rw [bsS, if_pos c]
      rw [eB]
      refine ⟨H, p', ?_, x2, cp, fun e => absurd (show clF T n k p ρ = 0 from e) c⟩
      rw [Mod_base_L24, if_neg (by decide), c_m (s41_m r.1 _ _), x1, bnd_some, c_m (s41_m rH.1 _ _), isMore_f rH (by omega), bnd_some, base_z]
end L8
