/-! Level 2: greedy and best, as they answer -/
section R15
variable {h H : AH} {T : Nat → Nat → Int} {n : Nat}
def grA (h : AH) (w : Int) : Int := if 0 ≤ w ∧ w ≤ 7 then (if w = 0 then ((grL h 6 [] 0 0).1.length : Int) else if w = 1 then (grL h 6 [] 0 0).2 else if w - 2 < (grL h 6 [] 0 0).1.length then (((grL h 6 [] 0 0).1[(w - 2).toNat]?).getD 0 : Nat) else -1) else -2
theorem grL_len (h : AH) : ∀ (f : Nat) (ch : List Nat) (rows tot : Int), (grL h f ch rows tot).1.length ≤ ch.length + f
  | 0, _, _, _ => Nat.le_refl _
  | f + 1, ch, rows, tot => by
    rw [grL]; split
    · show ch.length ≤ _; omega
    · have := grL_len h f (ch ++ [(grH h (chT h ch) ch.length rows (cnd h).length).1.toNat]) (rows + cR h (grH h (chT h ch) ch.length rows (cnd h).length).1.toNat) (tot + (grH h (chT h ch) ch.length rows (cnd h).length).2)
      rw [List.length_append, List.length_singleton] at this
      omega
theorem Mod_laysGreedy_e (m : MS h) (b : MB h) : ∃ H, RF h H ∧ (∃ rows, GS H (grL h 6 [] 0 0).1 rows (grL h 6 [] 0 0).2) ∧ Mod_laysGreedy 401 h = some ((), H) := by
  obtain ⟨p, c, k, mm, e, ci⟩ := Mod_laysCandidates_e m b
  have rf := RF_CD h p c k (cnd h).length mm
  obtain ⟨p', f, g, e2, e3, r⟩ := layCN m b (p := p) (mm := mm) ci
  have r0 := r (chT h [])
  have r1 := r0.stI (k := 36) 0 (by decide) (by decide) (by decide) (by decide) (by decide)
  have r2 := r1.stI (k := 37) 0 (by decide) (by decide) (by decide) (by decide) (by decide)
  have r3 := r2.stI (k := 38) 0 (by decide) (by decide) (by decide) (by decide) (by decide)
  have gs : GS (sI (sI (sI (sI (S3 (CD h p c k (cnd h).length mm) p' f g) 401 34 0) 401 36 0) 401 37 0) 401 38 0) [] 0 0 := by
    refine ⟨?_, ?_, hI_sIs _ _ _ _, fun i hi => absurd hi (by simp)⟩
    · rw [hI_sId _ _ (by decide), hI_sId _ _ (by decide), hI_sIs]; rfl
    · rw [hI_sId _ _ (by decide), hI_sIs]
  obtain ⟨H, f1, g1, e4⟩ := laysGreedy_L m b 5 FU [] 0 0 _ (by decide) (by decide) r3 gs (by decide) (by decide) (by decide) (by decide)
  refine ⟨H, f1, g1, ?_⟩
  unfold Mod_laysGreedy
  rw [c_m m, e, bnd_some, c_m (rf.ms m), e2, bnd_some, c_m ((rf.trans (RF_S3 _ _ _ _)).ms m), e3, bnd_some, p_m (r0.1.1.ms m), p_m (r1.1.1.ms m), p_m (r2.1.1.ms m), c_m (r3.1.1.ms m)]
  exact e4
theorem Mod_greedy_e (m : MS h) (b : MB h) (w : Int) : ∃ H, Mod_greedy 401 w h = some (grA h w, H) ∧ RF h H := by
  unfold Mod_greedy grA
  rw [Mod_in_e, bnd_some, ite_nbi]
  by_cases e : 0 ≤ w ∧ w ≤ 7
  · obtain ⟨H, f, ⟨rows, g1, g2, g3, g4⟩, e2⟩ := Mod_laysGreedy_e m b
    have m1 := f.ms m
    have l := grL_len h 6 [] 0 0
    simp only [List.length_nil] at l
    refine ⟨H, ?_, f⟩
    rw [show inB w 0 7 = true by unfold inB; simp [e], if_pos rfl, if_pos e, c_m m, e2, bnd_some]
    generalize grL h 6 [] 0 0 = G at *
    by_cases e3 : 2 ≤ w
    · rw [if_pos e3, if_neg (by omega), if_neg (by omega), g_m m1, g1, wr_id (by omega) (by omega)]
      by_cases e4 : w - 2 < G.1.length
      · rw [if_neg (by omega), if_pos e4, r_35 m1, a_422 m1 (by omega) (by omega), g4 _ (by omega)]
      · rw [if_pos (by omega), if_neg e4]
    · rw [if_neg e3, g_m m1, g_m m1, g1, g2]
      by_cases e4 : w = 0
      · rw [if_neg (by simpa using e4), if_pos e4]
      · rw [if_pos e4, if_neg e4, if_pos (by omega)]
  · refine ⟨h, ?_, RF.refl h⟩
    rw [show inB w 0 7 = false by unfold inB; rw [← Bool.decide_and]; exact decide_eq_false e, if_neg (by decide), if_neg e]
end R15
