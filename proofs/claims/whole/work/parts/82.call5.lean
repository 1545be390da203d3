/-! Level 2: acts on rows -/
def drw (ρ : Nat → Int) (t row : Int) : Nat → Int := if t = 0 then shr (u1 ρ 2 (ρ 2 - 1)) 8 3 (3 * row.toNat) (3 * (ρ 2 - 1).toNat) else shr (u1 ρ 3 (ρ 3 - 1)) 44 2 (2 * row.toNat) (2 * (ρ 3 - 1).toNat)
section K5
variable {h H K g g' : AH} {own own' : Nat → Nat} {ρ σ : Nat → Int}
theorem ST.dropT {a : Nat} (s : ST h a ρ) {t row : Int} (ht : t = 0 ∨ t = 1) (hr0 : 0 ≤ row) (hr : row < ρ (if t = 0 then 2 else 3)) : ∃ H, Tab_drop (if t = 0 then a + 22 else a + 24) row h = some ((), H) ∧ FR h H a (a + 26) ∧ ST H a (drw ρ t row) := by
  obtain ⟨r, rfl⟩ : ∃ r : Nat, row = (r : Int) := ⟨row.toNat, by omega⟩
  unfold drw
  rcases ht with rfl | rfl
  · rw [if_pos rfl] at hr ⊢
    rw [if_pos rfl]
    exact s.drR hr
  · rw [if_neg (by decide)] at hr ⊢
    rw [if_neg (by decide)]
    exact s.drS hr
theorem drw_0 (ρ : Nat → Int) (row : Int) : drw ρ 0 row 2 = ρ 2 - 1 := by
  unfold drw; rw [if_pos rfl]; unfold shr u1; rw [if_neg (by omega), if_pos rfl]
theorem drw_1 (ρ : Nat → Int) (row : Int) : drw ρ 1 row 3 = ρ 3 - 1 := by
  unfold drw; rw [if_neg (show ¬ (1 : Int) = 0 by decide)]; unfold shr u1; rw [if_neg (by omega), if_pos rfl]
theorem rm_drw (ρ : Nat → Int) {t : Int} (ht : t = 0 ∨ t = 1) (row : Int) : rmRow ρ t row = drw (spo ρ t row) t row := by
  have sp : ∀ j, j < 60 → spo ρ t row j = ρ j := fun j hj => if_neg (by omega)
  unfold rmRow drw
  rcases ht with rfl | rfl
  · rw [if_pos rfl, if_pos rfl, sp 2 (by decide)]
  · rw [if_neg (by decide), if_neg (by decide), sp 3 (by decide)]
theorem Bat_hasRow_e (c : CAS h own g) (t row : Int) : Bat_hasRow 16 t row h = some (bi (rowOk (rr (hI g)) t row), h) := by
  unfold Bat_hasRow Bat_isTable rowOk
  have s := c.st
  have q2 : hI h 43 3 = rr (hI g) 2 := s.2.1.2.2.1
  have q3 : hI h 45 3 = rr (hI g) 3 := s.2.1.2.2.2.1
  by_cases a : t = 0
  · rw [if_pos a, bnd_some, if_neg (by decide), c.way, s.tb (Or.inl a), rc_k (s.k10 t), if_pos a, a, decide_eq_true (Or.inl rfl), Bool.true_and, if_pos rfl, Tab_hasRow_e s.TR, bnd_some, ite_bi]
    show (if decide (0 ≤ row ∧ row < hI h 43 3) = true then _ else _) = _
    rw [q2]
    by_cases b1 : 0 ≤ row <;> by_cases b2 : row < rr (hI g) 2 <;> simp [b1, b2, bi]
  · by_cases b : t = 1
    · rw [if_neg a, if_neg (by omega), bnd_some, if_neg (by decide), c.way, s.tb (Or.inr b), rc_k (s.k10 t), if_neg a, if_neg a, decide_eq_true (Or.inr b), Bool.true_and, Tab_hasRow_e s.TS, bnd_some, ite_bi]
      show (if decide (0 ≤ row ∧ row < hI h 45 3) = true then _ else _) = _
      rw [q3]
      by_cases b1 : 0 ≤ row <;> by_cases b2 : row < rr (hI g) 3 <;> simp [b1, b2, bi]
    · rw [if_neg a, if_pos b, bnd_some, if_pos rfl, decide_eq_false (by omega), Bool.false_and]; rfl
theorem remove_ok (t row : Int) : OKC (Bat_remove 16 t row) (Mod_remove 401 t row) := by
  refine OKC_act (A := fun g => rr (hI g) (if t = 0 then 2 else 3) - 1) (ok := fun g => rowOk (rr (hI g)) t row = true) (R := fun g => rmRow (rr (hI g)) t row) (fun g g' r o => by rw [r.row]; exact o) (fun h own g c m o => ?_) (fun h own g c m o => ?_) (fun h m o => ⟨h, Mod_remove_n m.1 m.2.1 (by simpa using o), RF.refl h⟩) (fun h m o => Mod_remove_y m.1 m.2.1 m.2.2.2.1 m.2.2.2.2.1 m.2.2.2.2.2 o)
  · refine ⟨hI h, ?_, SC.refl _⟩
    unfold Bat_remove
    rw [rc_k c.fx.1, Bat_hasRow_e c, bnd_some, ite_nbi, if_neg o]; rfl
  · obtain ⟨K, own', x1, x2, x3, x4, x5⟩ := c.rem m
    obtain ⟨ht, r0, r1⟩ := rowOk_i.mp o
    obtain ⟨H1, y1, y2, y3⟩ := x2.st.spoil ht r0 r1
    have sp : ∀ j, j < 60 → spo (rr (hI g)) t row j = rr (hI g) j := fun j hj => if_neg (by omega)
    obtain ⟨H, z1, z2, z3⟩ := y3.dropT ht r0 (by rw [sp _ (by split <;> omega)]; exact r1)
    have fr : FR K H 21 47 := y2.trans z2
    have ez : hI H (if t = 0 then 43 else 45) 3 = rr (hI g) (if t = 0 then 2 else 3) - 1 := by
      rcases ht with rfl | rfl
      · have e := z3.2.1.2.2.1
        rw [drw_0, sp 2 (by decide)] at e
        exact e
      · have e := z3.2.1.2.2.2.1
        rw [drw_1, sp 3 (by decide)] at e
        exact e
    refine ⟨H, own', ?_, by rw [rm_drw _ ht]; exact x2.now fr z3⟩
    have y1' : She_spoil 23 t (if t = 0 then 43 else 45) row K = some ((), H1) := y1
    have z1' : Tab_drop (if t = 0 then 43 else 45) row H1 = some ((), H) := z1
    have kz : hK H (if t = 0 then 43 else 45) = (10, 0) := z3.k10 t
    have ky : hK H1 (if t = 0 then 43 else 45) = (10, 0) := y3.k10 t
    have tb1 := fun {β : Type} (k : Nat → Option β) => x2.st.tb ht (k := k)
    unfold Bat_remove
    rw [rc_k c.fx.1, Bat_hasRow_e c, bnd_some, ite_nbi, if_pos o, gR_k c.fx.1, c.fx.2.2.2.2.1, rc_k c.wh.1, x1, bnd_some, way x3.1 x2.wh, if_neg (by decide), gR_k x2.st.1.1, x2.st.sp, x2.st.tb ht, rc_k x2.st.sh.1, y1', bnd_some, y3.tb ht, rc_k ky, z1', bnd_some, z3.tb ht, gI_k kz, ez]
end K5
