/-! Level 2: cell and change of both sides -/
section K7
variable {h H K g g' : AH} {own own' : Nat → Nat} {ρ σ : Nat → Int}
theorem cellOk_i {t row col : Int} : cellOk ρ t row col = true ↔ ((t = 0 ∨ t = 1) ∧ 0 ≤ row ∧ row < ρ (if t = 0 then 2 else 3)) ∧ (if t = 0 then 0 ≤ col ∧ col < 3 else 3 ≤ col ∧ col < 5) := by
  unfold cellOk
  rw [Bool.and_eq_true, rowOk_i]
  by_cases a : t = 0
  · simp only [if_pos a, inB_i]
    constructor <;> intro x <;> exact ⟨x.1, by have := x.2; omega⟩
  · simp only [if_neg a, inB_i]
    constructor <;> intro x <;> exact ⟨x.1, by have := x.2; omega⟩
theorem ST.atT {a : Nat} (s : ST h a ρ) {t row col : Int} (o : cellOk ρ t row col = true) : Tab_at (if t = 0 then a + 22 else a + 24) row col h = some (numr ρ row col, h) := by
  obtain ⟨⟨ht, r0, r1⟩, hc⟩ := cellOk_i.mp o
  rcases ht with rfl | rfl
  · rw [if_pos rfl] at r1 hc ⊢
    exact s.atR r0 r1 hc.1 hc.2
  · rw [if_neg (by decide)] at r1 hc ⊢
    exact s.atS r0 r1 hc.1 hc.2
theorem cell_ok (t row col : Int) : OKC (Bat_cell 16 t row col) (Mod_cell 401 t row col) := by
  refine OKC_look (A := fun g => cellA (rr (hI g)) t row col) (fun h own g c m => ?_) (fun h m => ⟨h, Mod_cell_e m.1 m.2.1 t row col, RF.refl h⟩)
  refine ⟨hI h, ?_, SC.refl _⟩
  have s := c.st
  unfold Bat_cell cellA
  rw [rc_k c.fx.1, Bat_hasCell_e c, bnd_some, ite_bi]
  by_cases o : cellOk (rr (hI g)) t row col = true
  · have ht := (cellOk_i.mp o).1.1
    rw [if_pos o, if_pos o, c.way, s.tb ht, rc_k (s.k10 t), s.atT o, bnd_some]; rfl
  · rw [if_neg o, if_neg o]; rfl
theorem change_ok (t row col v : Int) : OKC (Bat_change 16 t row col v) (Mod_change 401 t row col v) := by
  refine OKC_act (A := fun g => numr (rr (hI g)) row col) (ok := fun g => chgOk (rr (hI g)) t row col v = true) (R := fun g => chgRow (rr (hI g)) t row col v) (fun g g' r o => by rw [r.row]; exact o) (fun h own g c m o => ?_) (fun h own g c m o => ?_) (fun h m o => ⟨h, Mod_change_n m.1 m.2.1 m.2.2.2.1 (by simpa using o), RF.refl h⟩) (fun h m o => Mod_change_y m.1 m.2.1 m.2.2.2.1 m.2.2.2.2.1 m.2.2.2.2.2 o)
  · refine ⟨hI h, ?_, SC.refl _⟩
    have s := c.st
    unfold chgOk at o
    unfold Bat_change
    rw [rc_k c.fx.1, Bat_hasCell_e c, bnd_some, ite_bi]
    by_cases oc : cellOk (rr (hI g)) t row col = true
    · have ht := (cellOk_i.mp oc).1.1
      rw [oc, Bool.true_and] at o
      rw [if_pos oc, Bat_isNumber_e, bnd_some, ite_nbi]
      by_cases on : inB v 0 9 = true
      · rw [on, Bool.true_and] at o
        have ev : numr (rr (hI g)) row col = v := by simpa using o
        rw [if_pos on, c.way, s.tb ht, rc_k (s.k10 t), s.atT oc, bnd_some, if_neg (by simpa using ev)]; rfl
      · rw [if_neg on]; rfl
    · rw [if_neg oc]; rfl
  · obtain ⟨K, own', x1, x2, x3, x4, x5⟩ := c.rem m
    have s := c.st
    unfold chgOk at o
    simp only [Bool.and_eq_true] at o
    obtain ⟨oc, on, ov⟩ := o
    obtain ⟨⟨ht, r0, r1⟩, hc⟩ := cellOk_i.mp oc
    have v9 := inB_i.mp on
    have nv : ¬ numr (rr (hI g)) row col = v := by simpa using ov
    obtain ⟨H, y1, y2, y3⟩ := x2.st.replace ht r0 r1 hc v9.1 v9.2
    refine ⟨H, own', ?_, x2.now (show FR K H 21 47 from y2) y3⟩
    unfold Bat_change
    rw [rc_k c.fx.1, Bat_hasCell_e c, bnd_some, ite_bi, if_pos oc, Bat_isNumber_e, bnd_some, ite_nbi, if_pos on, c.way, s.tb ht, rc_k (s.k10 t), s.atT oc, bnd_some, if_pos nv, gR_k c.fx.1, c.fx.2.2.2.2.1, rc_k c.wh.1, x1, bnd_some, way x3.1 x2.wh, rc_k x2.st.1.1, y1, bnd_some]
end K7
