/-! Level 2: greedy -/
section R13
variable {h H : AH} {T : Nat → Nat → Int} {n : Nat}
/-- the first of greatest gain, of fewest rows -/
def grd (g R : Nat → Int) (ok : Nat → Bool) : Nat → Int × Int
  | 0 => (-1, 0)
  | k + 1 => if ok k && (decide ((grd g R ok k).2 < g k) || (decide (¬ (grd g R ok k).1 = -1) && (decide (g k = (grd g R ok k).2) && decide (R k < R (grd g R ok k).1.toNat)))) then ((k : Int), g k) else grd g R ok k
theorem grd_b (g R : Nat → Int) (ok : Nat → Bool) : ∀ k : Nat, (grd g R ok k).1 = -1 ∨ (0 ≤ (grd g R ok k).1 ∧ (grd g R ok k).1 < k)
  | 0 => Or.inl rfl
  | k + 1 => by
    have := grd_b g R ok k
    rw [grd]; split
    · right; show (0 : Int) ≤ k ∧ (k : Int) < _; omega
    · omega
theorem grd_v (g R : Nat → Int) (ok : Nat → Bool) {B : Int} (hB : 0 ≤ B) : ∀ k : Nat, (∀ i, i < k → g i ≤ B) → 0 ≤ (grd g R ok k).2 ∧ (grd g R ok k).2 ≤ B
  | 0, _ => ⟨Int.le_refl _, hB⟩
  | k + 1, hg => by
    have ih := grd_v g R ok hB k (fun i hi => hg i (by omega))
    have := hg k (by omega)
    rw [grd]; split
    · rename_i e
      simp only [Bool.and_eq_true, Bool.or_eq_true, decide_eq_true_eq] at e
      show 0 ≤ g k ∧ g k ≤ B
      omega
    · exact ih
theorem RC.rows1 (r : RC h H T n) (m : MS h) (b : MB h) {k : Nat} (hk : k < (cnd h).length) : Mod_rowsOfOne 401 (k : Int) H = some (cR h k, H) := by
  have l := cnd_len b
  have m1 := r.1.1.ms m
  unfold Mod_rowsOfOne
  rw [r_29 m1, wr_id (z := 16 * (k : Int)) (by omega) (by omega), wr_id (by omega) (by omega), a_419 m1 (by omega) (by omega), tN (16 * (k : Int) + 13) (16 * k + 13) (by omega), r.cell hk (by decide)]
  rfl
theorem RC.drop {x : Nat → Int} (r : RC h H (app T n x) (n + 1)) (tb : TB T n) : RC h (sI H 401 34 (n : Int)) T n := by
  obtain ⟨⟨r1, r2, r3, r4, r5, r6⟩, c1, c2⟩ := r
  refine ⟨⟨r1.trans (RF_sI _ _ (by decide) (by decide) (by decide)), laid_to r2 (hI_sIn _ _ (by decide)) (hI_sIn _ _ (by decide)), hI_sIs _ _ _ _, by omega, fun j hj t ht => ?_, tb⟩, by rw [hI_sIn _ _ (by decide), hI_sIn _ _ (by decide)]; exact c1, by rw [hI_sId _ _ (by decide)]; exact c2⟩
  unfold tK
  rw [hI_sIn _ _ (by decide)]
  have := r5 j (by omega) t ht
  unfold app at this
  rw [if_neg (by omega)] at this
  exact this
/-- what greedy has chosen so far -/
def GS (H : AH) (ch : List Nat) (rows gain : Int) : Prop := hI H 401 36 = ch.length ∧ hI H 401 37 = gain ∧ hI H 401 38 = rows ∧ ∀ i, i < ch.length → hI H 422 i = ((ch[i]?).getD 0 : Nat)
theorem GS.to {H' : AH} {ch : List Nat} {rows gain : Int} (g : GS H ch rows gain) (e1 : hI H' 401 36 = hI H 401 36) (e2 : hI H' 401 37 = hI H 401 37) (e3 : hI H' 401 38 = hI H 401 38) (e4 : hI H' 422 = hI H 422) : GS H' ch rows gain := by
  unfold GS at *; rw [e1, e2, e3, e4]; exact g
/-- what a candidate gains beside what is taken -/
def gn (h : AH) (T : Nat → Nat → Int) (n k : Nat) : Int := bH h T n - bH h (app T n (cT h k)) (n + 1) - cM h k
def grH (h : AH) (T : Nat → Nat → Int) (n : Nat) (rows : Int) : Nat → Int × Int := grd (gn h T n) (cR h) (fun k => decide (rows + cR h k ≤ hI h 402 1))
theorem greediest_s (m : MS h) (b : MB h) (r : RC h H T n) (hn : n ≤ 6) {ch : List Nat} {rows gain : Int} (gs : GS H ch rows gain) (hr0 : 0 ≤ rows) (hr1 : rows ≤ 1000) {k : Nat} (hk : k < (cnd h).length) (f : Nat) : ∃ H', RC h H' T n ∧ GS H' ch rows gain ∧ Mod_greediest_L12 (f + 1) 401 (bH h T n) (grH h T n rows k).1 (grH h T n rows k).2 (k : Int) H = Mod_greediest_L12 f 401 (bH h T n) (grH h T n rows (k + 1)).1 (grH h T n rows (k + 1)).2 ((k + 1 : Nat) : Int) H' := by
  have l := cnd_len b
  have m1 := r.1.1.ms m
  have rb := cR_b b k
  have mb := cM_b b k
  have gb := grd_b (gn h T n) (cR h) (fun k => decide (rows + cR h k ≤ hI h 402 1)) k
  have ek : grH h T n rows (k + 1) = if decide (rows + cR h k ≤ hI h 402 1) && (decide ((grH h T n rows k).2 < gn h T n k) || (decide (¬ (grH h T n rows k).1 = -1) && (decide (gn h T n k = (grH h T n rows k).2) && decide (cR h k < cR h (grH h T n rows k).1.toNat)))) then ((k : Int), gn h T n k) else grH h T n rows k := rfl
  have gb' : (grH h T n rows k).1 = -1 ∨ (0 ≤ (grH h T n rows k).1 ∧ (grH h T n rows k).1 < k) := gb
  generalize grH h T n rows (k + 1) = G' at ek ⊢
  generalize grH h T n rows k = G at ek gb' ⊢
  obtain ⟨g1, g2, g3, g4⟩ := gs
  rw [Mod_greediest_L12, g_m m1, r.2.2, if_neg (by omega), g_m m1, c_m m1, r.rows1 m b hk, bnd_some, r_1 m1, a_402 m1 (by decide) (by decide), g3, wr_id (z := rows + cR h k) (by omega) (by omega), wr_id (z := (k : Int) + 1) (by omega) (by omega), show (k : Int) + 1 = ((k + 1 : Nat) : Int) by omega, show hI H 402 (1 : Int).toNat = hI h 402 1 by rw [r.1.1.i (a := 402) (by decide)]; rfl]
  by_cases e1 : hI h 402 1 < rows + cR h k
  · refine ⟨H, r, ⟨g1, g2, g3, g4⟩, ?_⟩
    rw [if_pos e1]
    rw [show decide (rows + cR h k ≤ hI h 402 1) = false from decide_eq_false (by omega), Bool.false_and, if_neg (by decide)] at ek
    rw [ek]
  · rw [show decide (rows + cR h k ≤ hI h 402 1) = true from decide_eq_true (by omega), Bool.true_and] at ek
    obtain ⟨e5, r3⟩ := r.take m b hn hk
    obtain ⟨p3, e6⟩ := r3.1.batch m b
    have r4 := r3.p p3
    have m4 := r4.1.1.ms m
    have b1 := r.1.b b
    have b2 := r3.1.b b
    have e34 : hI (sF (tk1 H k) 416 p3) 401 34 = n + 1 := r4.1.2.2.1
    have r5 := r4.drop r.1.2.2.2.2.2
    have m5 := r5.1.1.ms m
    have gs5 : GS (sI (sF (tk1 H k) 416 p3) 401 34 n) ch rows gain := by
      refine GS.to ⟨g1, g2, g3, g4⟩ ?_ ?_ ?_ ?_
      · rw [hI_sId _ _ (by decide), hI_sFn _ _ (by decide)]; unfold tk1; rw [hI_sId _ _ (by decide), hI_sFn _ _ (by decide)]
      · rw [hI_sId _ _ (by decide), hI_sFn _ _ (by decide)]; unfold tk1; rw [hI_sId _ _ (by decide), hI_sFn _ _ (by decide)]
      · rw [hI_sId _ _ (by decide), hI_sFn _ _ (by decide)]; unfold tk1; rw [hI_sId _ _ (by decide), hI_sFn _ _ (by decide)]
      · rw [hI_sIn _ _ (by decide), hI_sFn _ _ (by decide)]; unfold tk1; rw [hI_sIn _ _ (by decide), hI_sFn _ _ (by decide)]
    refine ⟨_, r5, gs5, ?_⟩
    rw [if_neg e1, c_m m1, e5, bnd_some, c_m (r3.1.1.ms m), e6, bnd_some, r_30 m4, a_420 m4 (by omega) (by omega), tN (k : Int) k rfl, r4.mk hk, g_m m4, e34, wr_id (z := (n : Int) + 1 - 1) (by omega) (by omega), show (n : Int) + 1 - 1 = n by omega, p_m m4, wr_id (z := bH h T n - bH h (app T n (cT h k)) (n + 1)) (by omega) (by omega), wr_id (z := bH h T n - bH h (app T n (cT h k)) (n + 1) - cM h k) (by omega) (by omega)]
    have eg : bH h T n - bH h (app T n (cT h k)) (n + 1) - cM h k = gn h T n k := rfl
    rw [eg]
    unfold Mod_greediest_L122
    rw [wr_id (z := (k : Int) + 1) (by omega) (by omega), show (k : Int) + 1 = ((k + 1 : Nat) : Int) by omega]
    by_cases e7 : G.2 < gn h T n k
    · rw [if_pos e7, if_neg (show ¬ (1 : Int) = 0 by decide), if_neg (show ¬ (1 : Int) = 0 by decide)]
      rw [if_pos (by simp [e7])] at ek
      rw [ek]
    · rw [if_neg e7]
      by_cases e8 : G.1 = -1
      · rw [if_pos e8, if_pos (show (0 : Int) = 0 from rfl), if_pos (show (0 : Int) = 0 from rfl)]
        rw [if_neg (by simp [e7, e8])] at ek
        rw [ek]
      · rw [if_neg e8]
        by_cases e9 : gn h T n k = G.2
        · rw [if_neg (by simpa using e9), c_m m5, r5.rows1 m b hk, bnd_some, c_m m5]
          have er := r5.rows1 m b (k := G.1.toNat) (by omega)
          rw [show ((G.1.toNat : Nat) : Int) = G.1 by omega] at er
          rw [er, bnd_some]
          by_cases e10 : cR h G.1.toNat ≤ cR h k
          · rw [if_pos e10, if_pos (show (0 : Int) = 0 from rfl), if_pos (show (0 : Int) = 0 from rfl)]
            rw [if_neg (by simp [e7, e8, e9]; omega)] at ek
            rw [ek]
          · rw [if_neg e10, if_neg (show ¬ (1 : Int) = 0 by decide), if_neg (show ¬ (1 : Int) = 0 by decide)]
            rw [if_pos (by simp [e8, e9]; omega)] at ek
            rw [ek]
        · rw [if_pos (by simpa using e9), if_pos (show (0 : Int) = 0 from rfl), if_pos (show (0 : Int) = 0 from rfl)]
          rw [if_neg (by simp [e7, e8, e9])] at ek
          rw [ek]
theorem greediest_L (m : MS h) (b : MB h) (hn : n ≤ 6) {ch : List Nat} {rows gain : Int} (hr0 : 0 ≤ rows) (hr1 : rows ≤ 1000) : ∀ (j k fuel : Nat) (H : AH), RC h H T n → GS H ch rows gain → k + j = (cnd h).length → j < fuel → ∃ H', RC h H' T n ∧ GS H' ch rows gain ∧ Mod_greediest_L12 fuel 401 (bH h T n) (grH h T n rows k).1 (grH h T n rows k).2 (k : Int) H = some ((grH h T n rows (cnd h).length).1, sI H' 401 37 (wr (gain + (grH h T n rows (cnd h).length).2)))
  | 0, k, fuel + 1, H, r, gs, hk, _ => by
    have m1 := r.1.1.ms m
    refine ⟨H, r, gs, ?_⟩
    rw [Mod_greediest_L12, g_m m1, r.2.2, if_pos (by omega), g_m m1, p_m m1, gs.2.1, show k = (cnd h).length by omega]
  | j + 1, k, fuel + 1, H, r, gs, hk, hf => by
    obtain ⟨H1, r1, gs1, e⟩ := greediest_s m b r hn gs hr0 hr1 (k := k) (by omega) fuel
    obtain ⟨H2, r2, gs2, e2⟩ := greediest_L m b hn hr0 hr1 j (k + 1) fuel H1 r1 gs1 (by omega) (by omega)
    exact ⟨H2, r2, gs2, by rw [e, e2]⟩
end R13
