/-! Level 2: change of both sides -/
section K6
variable {h H K g g' : AH} {own own' : Nat → Nat} {ρ σ : Nat → Int}
theorem Bat_isNumber_e (v : Int) (h : AH) : Bat_isNumber v h = some (bi (inB v 0 9), h) := by
  unfold Bat_isNumber inB
  by_cases a : v < 0
  · rw [if_pos a, decide_eq_false (by omega)]; rfl
  · rw [if_neg a, decide_eq_true (show 0 ≤ v by omega), Bool.true_and]
    by_cases b : 9 < v
    · rw [if_pos b, decide_eq_false (by omega)]; rfl
    · rw [if_neg b, decide_eq_true (show v ≤ 9 by omega)]; rfl
theorem Bat_hasCell_e (c : CAS h own g) (t row col : Int) : Bat_hasCell 16 t row col h = some (bi (cellOk (rr (hI g)) t row col), h) := by
  unfold Bat_hasCell cellOk
  have s := c.st
  rw [rc_k c.fx.1, Bat_hasRow_e c, bnd_some, ite_bi]
  cases o : rowOk (rr (hI g)) t row
  · rw [if_neg (by decide), Bool.false_and]; rfl
  · obtain ⟨ht, r0, r1⟩ := rowOk_i.mp o
    rw [if_pos rfl, Bool.true_and, c.way, s.tb ht, rc_k (s.k10 t)]
    rcases ht with rfl | rfl
    · rw [if_pos rfl, if_pos rfl, Tab_hasCol_e s.TR (by decide) (by decide), bnd_some, ite_bi]
      unfold inB
      by_cases b1 : 0 ≤ col <;> by_cases b2 : col < 3 <;> by_cases b3 : col ≤ 2 <;> first | omega | simp [b1, b2, b3, bi]
    · rw [if_neg (by decide), if_neg (by decide), Tab_hasCol_e s.TS (by decide) (by decide), bnd_some, ite_bi]
      unfold inB
      by_cases b1 : 3 ≤ col <;> by_cases b2 : col < 5 <;> by_cases b3 : col ≤ 4 <;> first | omega | simp [b1, b2, b3, bi]
end K6
