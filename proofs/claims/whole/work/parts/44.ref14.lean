/-! Level 2: greedy, all of it -/
section R14
variable {h H : AH} {T : Nat → Nat → Int} {n : Nat}
theorem grd_n (g R : Nat → Int) (ok : Nat → Bool) : ∀ k : Nat, (grd g R ok k).1 = -1 → (grd g R ok k).2 = 0
  | 0, _ => rfl
  | k + 1, e => by
    rw [grd] at e ⊢
    split at e
    · exact absurd e (by show ¬ (k : Int) = -1; omega)
    · rename_i e2
      rw [if_neg e2]; exact grd_n g R ok k e
theorem RC.to {H' : AH} (r : RC h H T n) (f : RF H H') (e7 : hI H' 417 = hI H 417) (e8 : hI H' 418 = hI H 418) (e9 : hI H' 419 = hI H 419) (e0 : hI H' 420 = hI H 420) (e1 : hI H' 421 = hI H 421) (e4 : hI H' 401 34 = hI H 401 34) (e3 : hI H' 401 31 = hI H 401 31) : RC h H' T n := by
  obtain ⟨⟨r1, r2, r3, r4, r5, r6⟩, c1, c2⟩ := r
  refine ⟨⟨r1.trans f, laid_to r2 e7 e8, by rw [e4]; exact r3, r4, fun j hj t ht => ?_, r6⟩, by rw [e9, e0]; exact c1, by rw [e3]; exact c2⟩
  unfold tK; rw [e1]; exact r5 j hj t ht
theorem RC.tt {T' : Nat → Nat → Int} (r : RC h H T n) (e : eqT T T' n) : RC h H T' n := by
  obtain ⟨⟨r1, r2, r3, r4, r5, r6⟩, c⟩ := r
  exact ⟨⟨r1, r2, r3, r4, fun j hj t ht => by rw [r5 j hj t ht, e j hj t ht], fun j hj => by rw [← e j hj 13 (by decide)]; exact r6 j hj⟩, c⟩
theorem RC.stI (r : RC h H T n) {k : Nat} (v : Int) (h1 : k ≠ 10) (h2 : k ≠ 18) (h3 : k ≠ 43) (h4 : k ≠ 34) (h5 : k ≠ 31) : RC h (sI H 401 k v) T n :=
  r.to (RF_sI H v h1 h2 h3) (hI_sIn _ _ (by decide)) (hI_sIn _ _ (by decide)) (hI_sIn _ _ (by decide)) (hI_sIn _ _ (by decide)) (hI_sIn _ _ (by decide)) (hI_sId _ _ (Ne.symm h4)) (hI_sId _ _ (Ne.symm h5))
theorem gn_b (m : MS h) (b : MB h) (r : RC h H T n) (hn : n ≤ 6) {k : Nat} (hk : k < (cnd h).length) : gn h T n k ≤ 96000 := by
  have b1 := r.1.b b
  have b2 := (r.take m b hn hk).2.1.b b
  have := cM_b b k
  unfold gn; omega
theorem Mod_greediest_e (m : MS h) (b : MB h) (hn : n ≤ 6) (r : RC h H T n) {ch : List Nat} {rows gain : Int} (gs : GS H ch rows gain) (hr0 : 0 ≤ rows) (hr1 : rows ≤ 1000) (hg0 : 0 ≤ gain) (hg1 : gain ≤ 1000000) : ∃ H', RC h H' T n ∧ GS H' ch rows (gain + (grH h T n rows (cnd h).length).2) ∧ Mod_greediest 401 H = some ((grH h T n rows (cnd h).length).1, H') := by
  have m1 := r.1.1.ms m
  have gv : 0 ≤ (grH h T n rows (cnd h).length).2 ∧ (grH h T n rows (cnd h).length).2 ≤ 96000 := grd_v (gn h T n) (cR h) _ (by decide) _ (fun i hi => gn_b m b r hn hi)
  obtain ⟨p, e⟩ := r.1.batch m b
  have gs1 : GS (sF H 416 p) ch rows gain := gs.to (by rw [hI_sFn _ _ (by decide)]) (by rw [hI_sFn _ _ (by decide)]) (by rw [hI_sFn _ _ (by decide)]) (hI_sFn _ _ (by decide))
  obtain ⟨H1, r1, g1, e1⟩ := greediest_L m b hn hr0 hr1 (cnd h).length 0 FU (sF H 416 p) (r.p p) gs1 (by omega) (by have := cnd_len b; have := FU_big; omega)
  refine ⟨sI H1 401 37 (wr (gain + (grH h T n rows (cnd h).length).2)), r1.stI _ (by decide) (by decide) (by decide) (by decide) (by decide), ?_, ?_⟩
  · obtain ⟨x1, x2, x3, x4⟩ := g1
    refine ⟨by rw [hI_sId _ _ (by decide)]; exact x1, by rw [hI_sIs, wr_id (by omega) (by omega)], by rw [hI_sId _ _ (by decide)]; exact x3, by rw [hI_sIn _ _ (by decide)]; exact x4⟩
  · unfold Mod_greediest
    rw [c_m m1, e, bnd_some]
    exact e1
/-- what is chosen, as taken -/
def chT (h : AH) (ch : List Nat) : Nat → Nat → Int := fun k => cT h ((ch[k]?).getD 0)
theorem chT_app (h : AH) (ch : List Nat) (k : Nat) : eqT (app (chT h ch) ch.length (cT h k)) (chT h (ch ++ [k])) (ch.length + 1) := by
  intro j hj t ht
  unfold app chT
  by_cases e : j = ch.length
  · rw [if_pos e, e]; simp
  · rw [if_neg e, List.getElem?_append_left (by omega)]
def grL (h : AH) : Nat → List Nat → Int → Int → List Nat × Int
  | 0, ch, _, tot => (ch, tot)
  | f + 1, ch, rows, tot => if (grH h (chT h ch) ch.length rows (cnd h).length).1 = -1 then (ch, tot) else grL h f (ch ++ [(grH h (chT h ch) ch.length rows (cnd h).length).1.toNat]) (rows + cR h (grH h (chT h ch) ch.length rows (cnd h).length).1.toNat) (tot + (grH h (chT h ch) ch.length rows (cnd h).length).2)
theorem RC.w422 (r : RC h H T n) (k : Nat) (v : Int) : RC h (sI H 422 k v) T n :=
  r.to (RF_sF H _ (by decide) (by decide)) (hI_sIn _ _ (by decide)) (hI_sIn _ _ (by decide)) (hI_sIn _ _ (by decide)) (hI_sIn _ _ (by decide)) (hI_sIn _ _ (by decide)) (by rw [hI_sIn _ _ (by decide)]) (by rw [hI_sIn _ _ (by decide)])
theorem laysGreedy_s (m : MS h) (b : MB h) {ch : List Nat} {rows tot : Int} (r : RC h H (chT h ch) ch.length) (gs : GS H ch rows tot) (hl : ch.length < 6) (hr0 : 0 ≤ rows) (hr1 : rows ≤ 1000) {k : Nat} (hk : k < (cnd h).length) (f : Nat) : ∃ H', RC h H' (chT h (ch ++ [k])) (ch ++ [k]).length ∧ GS H' (ch ++ [k]) (rows + cR h k) tot ∧ Mod_laysGreedy_L32 (f + 1) 401 (k : Int) H = if (6 : Int) ≤ (ch.length : Int) + 1 then Mod_laysGreedy_L32 f 401 (-1) H' else bnd (Mod_greediest 401 H') (fun x h1 => Mod_laysGreedy_L32 f 401 x h1) := by
  have m0 := r.1.1.ms m
  have rb := cR_b b k
  obtain ⟨g1, g2, g3, g4⟩ := gs
  have ra := r.w422 ch.length (k : Int)
  have rb2 := ra.stI (k := 36) ((ch.length : Int) + 1) (by decide) (by decide) (by decide) (by decide) (by decide)
  have rc2 := rb2.stI (k := 38) (rows + cR h k) (by decide) (by decide) (by decide) (by decide) (by decide)
  obtain ⟨e5, r3⟩ := rc2.take m b (by omega) hk
  have ma := ra.1.1.ms m
  have mb := rb2.1.1.ms m
  have mc := rc2.1.1.ms m
  have md := r3.1.1.ms m
  generalize hA1 : sI H 422 ch.length (k : Int) = A1 at *
  generalize hA2 : sI A1 401 36 ((ch.length : Int) + 1) = A2 at *
  generalize hA3 : sI A2 401 38 (rows + cR h k) = A3 at *
  have a36 : hI (tk1 A3 k) 401 36 = (ch.length : Int) + 1 := by
    unfold tk1; rw [hI_sId _ _ (by decide), hI_sFn _ _ (by decide), ← hA3, hI_sId _ _ (by decide), ← hA2, hI_sIs]
  have a422 : ∀ i, hI (tk1 A3 k) 422 i = if i = ch.length then (k : Int) else hI H 422 i := fun i => by
    unfold tk1; rw [hI_sIn _ _ (by decide), hI_sFn _ _ (by decide), ← hA3, hI_sIn _ _ (by decide), ← hA2, hI_sIn _ _ (by decide), ← hA1, sI_sF, hI_sFs]
  refine ⟨tk1 A3 k, ?_, ?_, ?_⟩
  · rw [List.length_append, List.length_singleton]
    exact r3.tt (chT_app h ch k)
  · rw [GS, List.length_append, List.length_singleton]
    refine ⟨by rw [a36]; omega, ?_, ?_, fun i hi => ?_⟩
    · unfold tk1; rw [hI_sId _ _ (by decide), hI_sFn _ _ (by decide), ← hA3, hI_sId _ _ (by decide), ← hA2, hI_sId _ _ (by decide), ← hA1, hI_sIn _ _ (by decide)]; exact g2
    · unfold tk1; rw [hI_sId _ _ (by decide), hI_sFn _ _ (by decide), ← hA3, hI_sIs]
    · rw [a422]
      by_cases e : i = ch.length
      · rw [if_pos e, e]; simp
      · rw [if_neg e, List.getElem?_append_left (by omega)]; exact g4 i (by omega)
  · have a36' : hI A1 401 36 = ch.length := by rw [← hA1, hI_sIn _ _ (by decide)]; exact g1
    have a38 : hI A2 401 38 = rows := by rw [← hA2, hI_sId _ _ (by decide), ← hA1, hI_sIn _ _ (by decide)]; exact g3
    rw [Mod_laysGreedy_L32, if_neg (by omega), r_35 m0, g_m m0, g1, w_422 m0 (by omega) (by omega), tN (ch.length : Int) ch.length rfl, hA1, g_m ma, a36', wr_id (z := (ch.length : Int) + 1) (by omega) (by omega), p_m ma, hA2, g_m mb, a38, c_m mb, rb2.rows1 m b hk, bnd_some, wr_id (by omega) (by omega), p_m mb, hA3, c_m mc, e5, bnd_some, g_m md, a36]
    split
    · rfl
    · rw [c_m md]
theorem laysGreedy_L (m : MS h) (b : MB h) : ∀ (f fuel : Nat) (ch : List Nat) (rows tot : Int) (H : AH), ch.length + (f + 1) = 6 → f + 2 < fuel → RC h H (chT h ch) ch.length → GS H ch rows tot → 0 ≤ rows → rows ≤ 96 * ch.length → 0 ≤ tot → tot ≤ 96000 * ch.length → ∃ H', RF h H' ∧ (∃ rows', GS H' (grL h (f + 1) ch rows tot).1 rows' (grL h (f + 1) ch rows tot).2) ∧ bnd (Mod_greediest 401 H) (fun x h1 => Mod_laysGreedy_L32 fuel 401 x h1) = some ((), H') := by
  intro f
  induction f with
  | zero =>
    intro fuel ch rows tot H hl hf r gs hr0 hr1 ht0 ht1
    obtain ⟨fuel, rfl⟩ : ∃ k, fuel = k + 1 + 1 := ⟨fuel - 2, by omega⟩
    obtain ⟨H1, r1, g1, e1⟩ := Mod_greediest_e m b (by omega) r gs hr0 (by omega) ht0 (by omega)
    have gb : (grH h (chT h ch) ch.length rows (cnd h).length).1 = -1 ∨ (0 ≤ (grH h (chT h ch) ch.length rows (cnd h).length).1 ∧ (grH h (chT h ch) ch.length rows (cnd h).length).1 < (cnd h).length) := grd_b _ _ _ _
    have gz : (grH h (chT h ch) ch.length rows (cnd h).length).1 = -1 → (grH h (chT h ch) ch.length rows (cnd h).length).2 = 0 := grd_n _ _ _ _
    rw [e1, bnd_some, grL]
    generalize grH h (chT h ch) ch.length rows (cnd h).length = G at *
    by_cases e : G.1 = -1
    · rw [if_pos e, e, Mod_laysGreedy_L32, if_pos rfl]
      rw [gz e, Int.add_zero] at g1
      exact ⟨H1, r1.1.1, ⟨rows, g1⟩, rfl⟩
    · obtain ⟨H2, r2, g2, e2⟩ := laysGreedy_s m b r1 g1 (by omega) hr0 (by omega) (k := G.1.toNat) (by omega) (fuel + 1)
      rw [show ((G.1.toNat : Nat) : Int) = G.1 by omega] at e2
      rw [if_neg e, e2, if_pos (by omega), Mod_laysGreedy_L32, if_pos rfl, grL]
      exact ⟨H2, r2.1.1, ⟨_, g2⟩, rfl⟩
  | succ f ih =>
    intro fuel ch rows tot H hl hf r gs hr0 hr1 ht0 ht1
    obtain ⟨fuel, rfl⟩ : ∃ k, fuel = k + 1 := ⟨fuel - 1, by omega⟩
    obtain ⟨H1, r1, g1, e1⟩ := Mod_greediest_e m b (by omega) r gs hr0 (by omega) ht0 (by omega)
    have gb : (grH h (chT h ch) ch.length rows (cnd h).length).1 = -1 ∨ (0 ≤ (grH h (chT h ch) ch.length rows (cnd h).length).1 ∧ (grH h (chT h ch) ch.length rows (cnd h).length).1 < (cnd h).length) := grd_b _ _ _ _
    have gv : 0 ≤ (grH h (chT h ch) ch.length rows (cnd h).length).2 ∧ (grH h (chT h ch) ch.length rows (cnd h).length).2 ≤ 96000 := grd_v _ (cR h) _ (by decide) _ (fun i hi => gn_b m b r (by omega) hi)
    have gz : (grH h (chT h ch) ch.length rows (cnd h).length).1 = -1 → (grH h (chT h ch) ch.length rows (cnd h).length).2 = 0 := grd_n _ _ _ _
    rw [e1, bnd_some, grL]
    generalize grH h (chT h ch) ch.length rows (cnd h).length = G at *
    by_cases e : G.1 = -1
    · rw [if_pos e, e, Mod_laysGreedy_L32, if_pos rfl]
      rw [gz e, Int.add_zero] at g1
      exact ⟨H1, r1.1.1, ⟨rows, g1⟩, rfl⟩
    · obtain ⟨H2, r2, g2, e2⟩ := laysGreedy_s m b r1 g1 (by omega) hr0 (by omega) (k := G.1.toNat) (by omega) fuel
      have rb := cR_b b G.1.toNat
      rw [show ((G.1.toNat : Nat) : Int) = G.1 by omega] at e2
      rw [if_neg e, e2, if_neg (by omega)]
      exact ih fuel (ch ++ [G.1.toNat]) _ _ H2 (by rw [List.length_append, List.length_singleton]; omega) (by omega) r2 g2 (by omega) (by rw [List.length_append, List.length_singleton]; omega) (by omega) (by rw [List.length_append, List.length_singleton]; omega)
end R14
