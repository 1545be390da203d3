/-! Level 2: best -/
def bs1 (g : Nat → Int) (ok : Nat → Bool) : Nat → Int × Int × Int
  | 0 => (0, -1, -1)
  | k + 1 => if ok k && decide ((bs1 g ok k).1 < g k) then (g k, (k : Int), -1) else bs1 g ok k
def bsI (g : Nat → Nat → Int) (ok : Nat → Nat → Bool) (a : Nat) : Nat → Nat → Int × Int × Int → Int × Int × Int
  | 0, _, s => s
  | n + 1, b, s => bsI g ok a n (b + 1) (if ok a b && decide (s.1 < g a b) then (g a b, (a : Int), (b : Int)) else s)
def bsO (g : Nat → Nat → Int) (ok : Nat → Nat → Bool) (N : Nat) : Nat → Nat → Int × Int × Int → Int × Int × Int
  | 0, _, s => s
  | n + 1, a, s => bsO g ok N n (a + 1) (bsI g ok a (N - (a + 1)) (a + 1) s)
def z2 : Nat → Nat → Int := fun _ _ => 0
section R16
variable {h H : AH} {T : Nat → Nat → Int} {n : Nat}
def gn2 (h : AH) (a b : Nat) : Int := bH h z2 0 - bH h (app (app z2 0 (cT h a)) 1 (cT h b)) 2 - (cM h a + cM h b)
def ok1 (h : AH) (k : Nat) : Bool := decide (cR h k ≤ hI h 402 1)
def ok2 (h : AH) (a b : Nat) : Bool := decide (cR h a + cR h b ≤ hI h 402 1)
def bst (h : AH) : Int × Int × Int := bsO (gn2 h) (ok2 h) (cnd h).length (cnd h).length 0 (bs1 (gn h z2 0) (ok1 h) (cnd h).length)
theorem RC.zero (r : RC h H T n) (T' : Nat → Nat → Int) : RC h (sI H 401 34 0) T' 0 := by
  obtain ⟨⟨r1, r2, r3, r4, r5, r6⟩, c1, c2⟩ := r
  exact ⟨⟨r1.trans (RF_sI _ _ (by decide) (by decide) (by decide)), laid_to r2 (hI_sIn _ _ (by decide)) (hI_sIn _ _ (by decide)), hI_sIs _ _ _ _, by omega, fun k hk => absurd hk (by omega), fun k hk => absurd hk (by omega)⟩, by rw [hI_sIn _ _ (by decide), hI_sIn _ _ (by decide)]; exact c1, by rw [hI_sId _ _ (by decide)]; exact c2⟩
def GB (H : AH) (s : Int × Int × Int) : Prop := hI H 401 39 = s.1 ∧ hI H 401 40 = s.2.1 ∧ hI H 401 41 = s.2.2
theorem GB.tk {s : Int × Int × Int} (g : GB H s) (k : Nat) : GB (tk1 H k) s := by
  obtain ⟨g1, g2, g3⟩ := g
  unfold GB tk1
  rw [hI_sId _ _ (by decide), hI_sFn _ _ (by decide), hI_sId _ _ (by decide), hI_sId _ _ (by decide)]
  exact ⟨g1, g2, g3⟩
theorem GB.z {s : Int × Int × Int} (g : GB H s) : GB (sI H 401 34 0) s := by
  obtain ⟨g1, g2, g3⟩ := g
  unfold GB
  rw [hI_sId _ _ (by decide), hI_sId _ _ (by decide), hI_sId _ _ (by decide)]
  exact ⟨g1, g2, g3⟩
theorem triesSet_f (m : MS h) (b : MB h) (r : RC h H T n) {s : Int × Int × Int} (gb : GB H s) {was mk : Int} (hw : 0 ≤ was ∧ was ≤ 96000) (hm : 0 ≤ mk ∧ mk ≤ 1000) (v1 v2 : Int) : ∃ H', RC h H' T n ∧ GB H' (if s.1 < was - bH h T n - mk then (was - bH h T n - mk, v1, v2) else s) ∧ Mod_triesSet_L38 401 v1 v2 was mk H = some ((), H') := by
  obtain ⟨p, e⟩ := r.1.batch m b
  have r1 := r.p p
  have m0 := r.1.1.ms m
  have m1 := r1.1.1.ms m
  have bb := r.1.b b
  obtain ⟨g1, g2, g3⟩ := gb
  have a1 : hI (sF H 416 p) 401 = hI H 401 := hI_sFn _ _ (by decide)
  unfold Mod_triesSet_L38
  rw [c_m m0, e, bnd_some, g_m m1, a1, g1, wr_id (z := was - bH h T n) (by omega) (by omega), wr_id (by omega) (by omega)]
  by_cases e1 : s.1 < was - bH h T n - mk
  · have r2 := r1.stI (k := 39) (was - bH h T n - mk) (by decide) (by decide) (by decide) (by decide) (by decide)
    have r3 := r2.stI (k := 40) v1 (by decide) (by decide) (by decide) (by decide) (by decide)
    have r4 := r3.stI (k := 41) v2 (by decide) (by decide) (by decide) (by decide) (by decide)
    refine ⟨_, r4, ?_, ?_⟩
    · rw [if_pos e1]
      refine ⟨?_, ?_, ?_⟩
      · rw [hI_sId _ _ (by decide), hI_sId _ _ (by decide), hI_sIs]
      · rw [hI_sId _ _ (by decide), hI_sIs]
      · rw [hI_sIs]
    · rw [if_neg (by omega), p_m m1, p_m (r2.1.1.ms m), p_m (r3.1.1.ms m)]
  · refine ⟨_, r1, ?_, ?_⟩
    · rw [if_neg e1]; exact ⟨by rw [a1]; exact g1, by rw [a1]; exact g2, by rw [a1]; exact g3⟩
    · rw [if_pos (by omega)]
theorem triesSet_1 (m : MS h) (b : MB h) (r : RC h H T n) {s : Int × Int × Int} (gb : GB H s) {a : Nat} (ha : a < (cnd h).length) : ∃ H' T' n', RC h H' T' n' ∧ GB H' (if s.1 < gn h z2 0 a then (gn h z2 0 a, (a : Int), -1) else s) ∧ Mod_triesSet 401 (a : Int) (-1) (bH h z2 0) H = some ((), H') := by
  have m0 := r.1.1.ms m
  have r0 := r.zero z2
  obtain ⟨e1, r1⟩ := r0.take m b (by decide) ha
  have bw := r0.1.b b
  have l := cnd_len b
  have mb := cM_b b a
  obtain ⟨H', r2, g2, e2⟩ := triesSet_f m b r1 (gb.z.tk a) (was := bH h z2 0) (mk := cM h a) bw (by omega) (a : Int) (-1)
  refine ⟨H', _, _, r2, g2, ?_⟩
  unfold Mod_triesSet
  rw [c_m m0, Mod_takesNone_e m0, bnd_some, c_m (r0.1.1.ms m), e1, bnd_some, r_30 (r1.1.1.ms m), a_420 (r1.1.1.ms m) (by omega) (by omega), tN (a : Int) a rfl, r1.mk ha, if_pos rfl]
  exact e2
theorem triesSet_2 (m : MS h) (b : MB h) (r : RC h H T n) {s : Int × Int × Int} (gb : GB H s) {a c : Nat} (ha : a < (cnd h).length) (hc : c < (cnd h).length) : ∃ H' T' n', RC h H' T' n' ∧ GB H' (if s.1 < gn2 h a c then (gn2 h a c, (a : Int), (c : Int)) else s) ∧ Mod_triesSet 401 (a : Int) (c : Int) (bH h z2 0) H = some ((), H') := by
  have m0 := r.1.1.ms m
  have r0 := r.zero z2
  obtain ⟨e1, r1⟩ := r0.take m b (by decide) ha
  obtain ⟨e3, r3⟩ := r1.take m b (by decide) hc
  have bw := r0.1.b b
  have l := cnd_len b
  have mb := cM_b b a
  have mc := cM_b b c
  obtain ⟨H', r2, g2, e2⟩ := triesSet_f m b r3 ((gb.z.tk a).tk c) (was := bH h z2 0) (mk := cM h a + cM h c) bw (by omega) (a : Int) (c : Int)
  refine ⟨H', _, _, r2, g2, ?_⟩
  unfold Mod_triesSet
  rw [c_m m0, Mod_takesNone_e m0, bnd_some, c_m (r0.1.1.ms m), e1, bnd_some, r_30 (r1.1.1.ms m), a_420 (r1.1.1.ms m) (by omega) (by omega), tN (a : Int) a rfl, r1.mk ha, if_neg (by omega), c_m (r1.1.1.ms m), e3, bnd_some, r_30 (r3.1.1.ms m), a_420 (r3.1.1.ms m) (by omega) (by omega), tN (c : Int) c rfl, r3.mk hc, wr_id (by omega) (by omega)]
  exact e2
theorem laysBest_1 (m : MS h) (b : MB h) : ∀ (j k fuel : Nat) (H : AH) (T : Nat → Nat → Int) (n : Nat), RC h H T n → GB H (bs1 (gn h z2 0) (ok1 h) k) → k + j = (cnd h).length → j < fuel → ∃ H' T' n', RC h H' T' n' ∧ GB H' (bs1 (gn h z2 0) (ok1 h) (cnd h).length) ∧ Mod_laysBest_L34 fuel 401 (bH h z2 0) (k : Int) H = Mod_laysBest_L71 FU 401 (bH h z2 0) 0 H'
  | 0, k, fuel + 1, H, T, n, r, gb, hk, _ => by
    have m1 := r.1.1.ms m
    refine ⟨H, T, n, r, by rw [← show k = (cnd h).length by omega]; exact gb, ?_⟩
    rw [Mod_laysBest_L34, g_m m1, r.2.2, if_pos (by omega)]
  | j + 1, k, fuel + 1, H, T, n, r, gb, hk, hf => by
    have m1 := r.1.1.ms m
    have l := cnd_len b
    rw [Mod_laysBest_L34, g_m m1, r.2.2, if_neg (by omega), c_m m1, r.rows1 m b (by omega), bnd_some, r_1 m1, a_402 m1 (by decide) (by decide), show hI H 402 (1 : Int).toNat = hI h 402 1 by rw [r.1.1.i (a := 402) (by decide)]; rfl, wr_id (z := (k : Int) + 1) (by omega) (by omega), show (k : Int) + 1 = ((k + 1 : Nat) : Int) by omega]
    have ih := laysBest_1 m b j (k + 1) fuel
    rw [bs1] at ih
    by_cases e1 : hI h 402 1 < cR h k
    · rw [if_pos e1]
      rw [show ok1 h k = false from decide_eq_false (by omega), Bool.false_and, if_neg (by decide)] at ih
      exact ih H T n r gb (by omega) (by omega)
    · rw [show ok1 h k = true from decide_eq_true (by omega), Bool.true_and] at ih
      obtain ⟨H1, T1, n1, r1, g1, e2⟩ := triesSet_1 m b r gb (a := k) (by omega)
      rw [if_neg e1, c_m m1, e2, bnd_some]
      refine ih H1 T1 n1 r1 ?_ (by omega) (by omega)
      simpa only [decide_eq_true_eq] using g1
theorem laysBest_i (m : MS h) (b : MB h) {a : Nat} (ha : a < (cnd h).length) (k71 : Nat → Int → Int → AH → Option (Unit × AH)) : ∀ (j c fuel : Nat) (H : AH) (T : Nat → Nat → Int) (n : Nat) (s : Int × Int × Int), RC h H T n → GB H s → c + j = (cnd h).length → j < fuel → ∃ H' T' n', RC h H' T' n' ∧ GB H' (bsI (gn2 h) (ok2 h) a j c s) ∧ Mod_laysBest_L83 k71 fuel 401 (bH h z2 0) (a : Int) (c : Int) H = k71 401 (bH h z2 0) ((a + 1 : Nat) : Int) H'
  | 0, c, fuel + 1, H, T, n, s, r, gb, hk, _ => by
    have m1 := r.1.1.ms m
    have l := cnd_len b
    refine ⟨H, T, n, r, gb, ?_⟩
    rw [Mod_laysBest_L83, g_m m1, r.2.2, if_pos (by omega), wr_id (z := (a : Int) + 1) (by omega) (by omega), show (a : Int) + 1 = ((a + 1 : Nat) : Int) by omega]
  | j + 1, c, fuel + 1, H, T, n, s, r, gb, hk, hf => by
    have m1 := r.1.1.ms m
    have l := cnd_len b
    have ra := cR_b b a
    have rc := cR_b b c
    rw [Mod_laysBest_L83, g_m m1, r.2.2, if_neg (by omega), c_m m1, r.rows1 m b ha, bnd_some, c_m m1, r.rows1 m b (k := c) (by omega), bnd_some, r_1 m1, a_402 m1 (by decide) (by decide), show hI H 402 (1 : Int).toNat = hI h 402 1 by rw [r.1.1.i (a := 402) (by decide)]; rfl, wr_id (z := (c : Int) + 1) (by omega) (by omega), show (c : Int) + 1 = ((c + 1 : Nat) : Int) by omega, wr_id (z := cR h a + cR h c) (by omega) (by omega), bsI]
    by_cases e1 : hI h 402 1 < cR h a + cR h c
    · rw [if_pos e1, show ok2 h a c = false from decide_eq_false (by omega), Bool.false_and, if_neg (show ¬ false = true by decide)]
      exact laysBest_i m b ha k71 j (c + 1) fuel H T n s r gb (by omega) (by omega)
    · obtain ⟨H1, T1, n1, r1, g1, e2⟩ := triesSet_2 m b r gb (a := a) (c := c) ha (by omega)
      rw [if_neg e1, show ok2 h a c = true from decide_eq_true (by omega), Bool.true_and, c_m m1, e2, bnd_some]
      refine laysBest_i m b ha k71 j (c + 1) fuel H1 T1 n1 _ r1 ?_ (by omega) (by omega)
      simpa only [decide_eq_true_eq] using g1
theorem laysBest_o (m : MS h) (b : MB h) : ∀ (j a fuel : Nat) (H : AH) (T : Nat → Nat → Int) (n : Nat) (s : Int × Int × Int), RC h H T n → GB H s → a + j = (cnd h).length → j < fuel → ∃ H', RF h H' ∧ GB H' (bsO (gn2 h) (ok2 h) (cnd h).length j a s) ∧ Mod_laysBest_L71 fuel 401 (bH h z2 0) (a : Int) H = some ((), H')
  | 0, a, fuel + 1, H, T, n, s, r, gb, hk, _ => by
    have m1 := r.1.1.ms m
    refine ⟨H, r.1.1, gb, ?_⟩
    rw [Mod_laysBest_L71, g_m m1, r.2.2, if_pos (by omega)]
  | j + 1, a, fuel + 1, H, T, n, s, r, gb, hk, hf => by
    have m1 := r.1.1.ms m
    have l := cnd_len b
    obtain ⟨H1, T1, n1, r1, g1, e1⟩ := laysBest_i m b (a := a) (by omega) (Mod_laysBest_L71 fuel) ((cnd h).length - (a + 1)) (a + 1) FU H T n s r gb (by omega) (by have := FU_big; omega)
    rw [Mod_laysBest_L71, g_m m1, r.2.2, if_neg (by omega), wr_id (z := (a : Int) + 1) (by omega) (by omega), show (a : Int) + 1 = ((a + 1 : Nat) : Int) by omega, e1, bsO]
    exact laysBest_o m b j (a + 1) fuel H1 T1 n1 _ r1 g1 (by omega) (by omega)
theorem Mod_laysBest_e (m : MS h) (b : MB h) : ∃ H, RF h H ∧ GB H (bst h) ∧ Mod_laysBest 401 h = some ((), H) := by
  obtain ⟨p, c, k, mm, e, ci⟩ := Mod_laysCandidates_e m b
  have rf := RF_CD h p c k (cnd h).length mm
  obtain ⟨p', f, g, e2, e3, r⟩ := layCN m b (p := p) (mm := mm) ci
  have r0 := r z2
  obtain ⟨p2, e4⟩ := r0.1.batch m b
  have r1 := (r0.p p2).stI (k := 39) 0 (by decide) (by decide) (by decide) (by decide) (by decide)
  have r2 := r1.stI (k := 40) (-1) (by decide) (by decide) (by decide) (by decide) (by decide)
  have r3 := r2.stI (k := 41) (-1) (by decide) (by decide) (by decide) (by decide) (by decide)
  have l := cnd_len b
  have F := FU_big
  obtain ⟨H1, T1, n1, x1, g1, e5⟩ := laysBest_1 m b (cnd h).length 0 FU _ _ _ r3 (by
    refine ⟨?_, ?_, ?_⟩
    · rw [hI_sId _ _ (by decide), hI_sId _ _ (by decide), hI_sIs]; rfl
    · rw [hI_sId _ _ (by decide), hI_sIs]; rfl
    · rw [hI_sIs]; rfl) (by omega) (by omega)
  obtain ⟨H2, f2, g2, e6⟩ := laysBest_o m b (cnd h).length 0 FU H1 T1 n1 _ x1 g1 (by omega) (by omega)
  refine ⟨H2, f2, g2, ?_⟩
  unfold Mod_laysBest
  rw [c_m m, e, bnd_some, c_m (rf.ms m), e2, bnd_some, c_m ((rf.trans (RF_S3 _ _ _ _)).ms m), e3, bnd_some, c_m (r0.1.1.ms m), e4, bnd_some, p_m ((r0.p p2).1.1.ms m), p_m (r1.1.1.ms m), p_m (r2.1.1.ms m)]
  rw [show ((0 : Nat) : Int) = 0 from rfl] at e5 e6
  rw [e5, e6]
def bestA (h : AH) (w : Int) : Int := if 0 ≤ w ∧ w ≤ 2 then (if w = 0 then (bst h).1 else if w = 1 then (bst h).2.1 else (bst h).2.2) else -2
theorem Mod_best_e (m : MS h) (b : MB h) (w : Int) : ∃ H, Mod_best 401 w h = some (bestA h w, H) ∧ RF h H := by
  unfold Mod_best bestA
  rw [Mod_in_e, bnd_some, ite_nbi]
  by_cases e : 0 ≤ w ∧ w ≤ 2
  · obtain ⟨H, f, ⟨g1, g2, g3⟩, e2⟩ := Mod_laysBest_e m b
    have m1 := f.ms m
    refine ⟨H, ?_, f⟩
    rw [show inB w 0 2 = true by unfold inB; simp [e], if_pos rfl, if_pos e, c_m m, e2, bnd_some, g_m m1, g_m m1, g_m m1, g1, g2, g3]
    by_cases e3 : w = 0
    · rw [if_neg (by simpa using e3), if_pos e3]
    · rw [if_pos e3, if_neg e3]
      by_cases e4 : w = 1
      · rw [if_neg (by simpa using e4), if_pos e4]
      · rw [if_pos e4, if_neg e4]
  · refine ⟨h, ?_, RF.refl h⟩
    rw [show inB w 0 2 = false by unfold inB; rw [← Bool.decide_and]; exact decide_eq_false e, if_neg (by decide), if_neg e]
end R16
