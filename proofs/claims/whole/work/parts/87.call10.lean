/-! Level 2: count of both sides -/
section K10
theorem count_ok (w : Int) : OKC (Bat_count 16 w) (Mod_count 401 w) := by
  refine OKC_look (A := fun g => cntA g w) (fun h own g c m => ?_) (fun h m => ⟨h, Mod_count_e m.1 m.2.2.2.1 w, RF.refl h⟩)
  refine ⟨hI h, ?_, SC.refl _⟩
  have s := c.st
  obtain ⟨F, wo⟩ := c.2.2.2.2.1
  have n43 : hI h 20 3 = hI g 401 43 := by
    have := wo.2.2.2.1.2
    have := m.2.2.2.2.1
    omega
  have ra := s.rowsAll
  obtain ⟨e0, e1, e2, e3, e4, e5, e6, e7, -⟩ := s.2.1
  simp only [rr_s (hI g) (show 1 < 8 by decide), rr_s (hI g) (show 2 < 8 by decide), rr_s (hI g) (show 3 < 8 by decide), rr_s (hI g) (show 4 < 8 by decide), rr_s (hI g) (show 5 < 8 by decide), rr_s (hI g) (show 6 < 8 by decide), rr_s (hI g) (show 7 < 8 by decide)] at e1 e2 e3 e4 e5 e6 e7 ra
  unfold Bat_count cntA
  rw [c.way, if_neg (by decide), gI_k s.1.1, e1, s.t0, gI_k s.TR.1, e2, s.t1, gI_k s.TS.1, e3, gI_k c.fx.1, c.2.2.1.1, gI_k s.1.1, e4, gR_k s.1.1, s.sp, gI_k s.sh.1, e5, gR_k s.1.1, s.sp, rc_k s.sh.1, ra, bnd_some, gI_k s.1.1, e6, gI_k s.1.1, e7, gR_k c.fx.1, c.fx.2.2.2.2.1, gI_k c.wh.1, n43, gR_k c.fx.1, c.fx.2.2.2.2.1, gI_k c.wh.1, c.2.2.2.1, gI_k c.fx.1, c.2.2.1.2.1]
  by_cases a0 : w = 0
  · rw [if_pos a0, if_pos a0]; rfl
  rw [if_neg a0, if_neg a0]
  by_cases a1 : w = 1
  · rw [if_pos a1, if_pos a1]; rfl
  rw [if_neg a1, if_neg a1]
  by_cases a2 : w = 2
  · rw [if_pos a2, if_pos a2]; rfl
  rw [if_neg a2, if_neg a2]
  by_cases a3 : w = 3
  · rw [if_pos a3, if_pos a3]; rfl
  rw [if_neg a3, if_neg a3]
  by_cases a4 : w = 4
  · rw [if_pos a4, if_pos a4]; rfl
  rw [if_neg a4, if_neg a4]
  by_cases a5 : w = 5
  · rw [if_pos a5, if_pos a5]; rfl
  rw [if_neg a5, if_neg a5]
  by_cases a6 : w = 6
  · rw [if_pos a6, if_pos a6]; rfl
  rw [if_neg a6, if_neg a6]
  by_cases a7 : w = 7
  · rw [if_pos a7, if_pos a7]; rfl
  rw [if_neg a7, if_neg a7]
  by_cases a8 : w = 8
  · rw [if_pos a8, if_pos a8]; rfl
  rw [if_neg a8, if_neg a8]
  by_cases a9 : w = 9
  · rw [if_pos a9, if_pos a9]; rfl
  rw [if_neg a9, if_neg a9]
  by_cases a10 : w = 10
  · rw [if_pos a10, if_pos a10]; rfl
  rw [if_neg a10, if_neg a10]
  by_cases a11 : w = 11
  · rw [if_pos a11, if_pos a11]; rfl
  rw [if_neg a11, if_neg a11]
  rfl
end K10
