/-! Level 2: form, digest, alike, marks, residue of both sides -/
section K13
variable {h g : AH} {own : Nat → Nat}
theorem CAS.qr {β : Type} (c : CAS h own g) {k : Nat} (hk : k < 8) (K : Nat → Option β) : (gR h 12 16 3 fun r => aR h 31 r (k : Int) K) = K (329 + 9 * k) := by
  rw [gR_k c.fx.1, c.fx.2.2.2.1, aR_k c.2.1.1.1 (by omega) (by omega), tN (k : Int) k rfl, (c.2.1.1.2 k hk).1]
theorem CAS.stk (c : CAS h own g) (m : MR g) {q : Nat} (hq : q < 8) : Sta_isStruck 21 (q : Int) h = some (bi (hasB (hI g 402 4) q), h) := by
  have := c.struck m (SC.refl (hI h)) hq
  rw [WI_id] at this
  exact this
theorem CAS.hq (c : CAS h own g) (q : Int) : Bat_hasQuery 16 q h = some (bi (decide (0 ≤ q ∧ q < hI g 401 10)), h) := by
  have := Bat_hasQuery_e c (SC.refl (hI h)) q
  rw [WI_id] at this
  exact this
theorem form_ok (q w : Int) : OKC (Bat_form 16 q w) (Mod_form 401 q w) := by
  refine OKC_look (A := fun g => fmA g q w) (fun h own g c m => ?_) (fun h m => ⟨h, Mod_form_e m.1 m.2.1 q w, RF.refl h⟩)
  refine ⟨hI h, ?_, SC.refl _⟩
  have s := c.st
  have b3 := m.2.1.2.2.1
  unfold Bat_form fmA
  rw [rc_k c.fx.1, c.hq, bnd_some, ite_bi, WI_id]
  by_cases a : 0 ≤ q ∧ q < hI g 401 10
  · obtain ⟨k, rfl⟩ : ∃ k : Nat, q = (k : Int) := ⟨q.toNat, by omega⟩
    obtain ⟨q1, q2, q3, q4, q5, q6, q7⟩ := c.2.1.1.2 k (by omega)
    obtain ⟨d1, d2, d3⟩ := c.2.1.2 k a.2
    rw [decide_eq_true a, if_pos rfl]
    by_cases w0 : w < 0
    · rw [if_pos w0, if_neg (by omega)]
    · rw [if_neg w0]
      by_cases w20 : w ≤ 20
      · rw [if_pos w20, if_pos (show (0 ≤ (k : Int) ∧ (k : Int) < hI g 401 10) ∧ 0 ≤ w ∧ w ≤ 20 by omega)]
        by_cases w19 : 19 ≤ w
        · rw [if_pos w19, if_neg (show ¬ w < 19 by omega)]
          by_cases e : w = 19
          · rw [if_neg (by omega), if_pos e, c.qr (by omega), gI_k q2, d2, ite_bi, show ((k : Nat) : Int).toNat = k from rfl]
            cases rVd g k <;> rfl
          · rw [if_pos e, if_neg e, c.way, rc_k s.1.1, c.stk m (by omega), bnd_some, ite_bi]
            cases hasB (hI g 402 4) k <;> rfl
        · rw [if_neg w19, if_pos (show w < 19 by omega), c.qr (by omega), gR_k q2, q3, aI_k q5 (by omega) (by omega), d1 _ (by omega)]; rfl
      · rw [if_neg w20, if_neg (by omega)]
  · rw [decide_eq_false a, if_neg (by decide), if_neg (fun x => a x.1)]
theorem digest_C (c : CAS h own g) (m : MR g) {q : Nat} (hq : (q : Int) < hI g 401 10) : ∀ (n w fuel : Nat), (w : Int) + n = 14 + hI g 413 q → n < fuel → Que_digestOfForm_L5 fuel (329 + 9 * q) (dg (dgv g q) w) (w : Int) h = some (dg (dgv g q) (14 + (hI g 413 q).toNat), h)
  | 0, w, fuel + 1, hw, _ => by
    have b3 := m.2.1.2.2.1
    obtain ⟨c1, c2, c3, c4⟩ := m.2.1.2.2.2.2 q (by omega) hq
    obtain ⟨q1, q2, q3, q4, q5, q6, q7⟩ := c.2.1.1.2 q (by omega)
    obtain ⟨d1, d2, d3⟩ := c.2.1.2 q hq
    have e13 : hI h (330 + 9 * q) (13 : Int).toNat = hI g 413 q := d1 13 (by decide)
    rw [Que_digestOfForm_L5, gR_k q2, q3, aI_k q5 (by decide) (by decide), e13, wr_id (by omega) (by omega), if_pos (by omega), show 14 + (hI g 413 q).toNat = w by omega]
  | n + 1, w, fuel + 1, hw, hf => by
    have b3 := m.2.1.2.2.1
    obtain ⟨c1, c2, c3, c4⟩ := m.2.1.2.2.2.2 q (by omega) hq
    obtain ⟨q1, q2, q3, q4, q5, q6, q7⟩ := c.2.1.1.2 q (by omega)
    obtain ⟨d1, d2, d3⟩ := c.2.1.2 q hq
    have e13 : hI h (330 + 9 * q) (13 : Int).toNat = hI g 413 q := d1 13 (by decide)
    have ew : hI h (330 + 9 * q) ((w : Int)).toNat = FM g q w := d1 w (by omega)
    have ih := digest_C c m hq n (w + 1) fuel (by omega) (by omega)
    have vb := dgv_b m.2.1 m.2.2.1 hq (w := w) (by omega)
    have db := dg_b (dgv g q) w
    rw [dg] at ih
    have st : ∀ x : Int, x = dgv g q w → iRem (wr (wr (31 * dg (dgv g q) w) + x)) 1000003 = (31 * dg (dgv g q) w + dgv g q w) % 1000003 := fun x hx => by
      rw [hx, wr_id (z := 31 * dg (dgv g q) w) (by omega) (by omega), wr_id (by omega) (by omega), iRem_e (by omega) (by omega) (by decide) (by decide)]
    rw [Que_digestOfForm_L5, gR_k q2, q3, aI_k q5 (by decide) (by decide), e13, wr_id (z := 14 + hI g 413 q) (by omega) (by omega), if_neg (by omega), gR_k q2, q3, aI_k q5 (by omega) (by omega), ew, wr_id (z := (w : Int) + 1) (by omega) (by omega), show (w : Int) + 1 = ((w + 1 : Nat) : Int) by omega]
    by_cases e : FM g q w = -1
    · have e9 : (9 : Int) = dgv g q w := by unfold dgv; rw [if_pos e]
      rw [if_neg (by omega), if_neg (by decide), st 9 e9, ih]
    · have e9 : FM g q w = dgv g q w := by unfold dgv; rw [if_neg e]
      rw [if_pos e, gR_k q2, q3, aI_k q5 (by omega) (by omega), ew, if_neg (by decide), st _ e9, ih]
theorem digest_ok (q : Int) : OKC (Bat_digest 16 q) (Mod_digest 401 q) := by
  refine OKC_look (A := fun g => dgA g q) (fun h own g c m => ?_) (fun h m => ⟨h, Mod_digest_e m.1 m.2.1 m.2.2.1 q, RF.refl h⟩)
  refine ⟨hI h, ?_, SC.refl _⟩
  have b3 := m.2.1.2.2.1
  unfold Bat_digest dgA
  rw [rc_k c.fx.1, c.hq, bnd_some, ite_bi, WI_id]
  by_cases a : 0 ≤ q ∧ q < hI g 401 10
  · obtain ⟨k, rfl⟩ : ∃ k : Nat, q = (k : Int) := ⟨q.toNat, by omega⟩
    obtain ⟨c1, c2, c3, c4⟩ := m.2.1.2.2.2.2 k (by omega) a.2
    have L := digest_C c m (q := k) a.2 (14 + (hI g 413 k).toNat) 0 FU (by omega) (by have := FU_big; omega)
    rw [decide_eq_true a, if_pos rfl, if_pos a, c.qr (by omega), rc_k (c.2.1.1.2 k (by omega)).2.1]
    unfold Que_digestOfForm
    have L' : Que_digestOfForm_L5 FU (329 + 9 * k) 7 0 h = some (dg (dgv g k) (14 + (hI g 413 k).toNat), h) := L
    rw [L', bnd_some]; rfl
  · rw [decide_eq_false a, if_neg (by decide), if_neg a]
theorem like_C (c : CAS h own g) (m : MR g) {i q : Nat} (hi : (i : Int) < hI g 401 10) (hq : (q : Int) < hI g 401 10) : Que_isLike (329 + 9 * i) (329 + 9 * q) h = some (bi (lkB g q i), h) := by
  have b3 := m.2.1.2.2.1
  obtain ⟨q1, q2, q3, q4, q5, q6, q7⟩ := c.2.1.1.2 q (by omega)
  obtain ⟨d1, d2, d3⟩ := c.2.1.2 q hq
  obtain ⟨i1, i2, i3, i4, i5, i6, i7⟩ := c.2.1.1.2 i (by omega)
  obtain ⟨e1, e2, e3⟩ := c.2.1.2 i hi
  have L : ∀ (n w : Nat), w + n = 19 → ∀ fuel, n < fuel → Que_isLike_L2 fuel (329 + 9 * i) (329 + 9 * q) (w : Int) h = some (bi (allR (fun w => decide (FM g i w = FM g q w)) w n), h) := by
    intro n
    induction n with
    | zero =>
      intro w hw fuel hf
      obtain ⟨fuel, rfl⟩ : ∃ k, fuel = k + 1 := ⟨fuel - 1, by omega⟩
      rw [Que_isLike_L2, if_pos (by omega)]; rfl
    | succ n ih =>
      intro w hw fuel hf
      obtain ⟨fuel, rfl⟩ : ∃ k, fuel = k + 1 := ⟨fuel - 1, by omega⟩
      rw [Que_isLike_L2, if_neg (by omega), gR_k i2, i3, aI_k i5 (by omega) (by omega), gR_k q2, q3, aI_k q5 (by omega) (by omega), tN (w : Int) w rfl, e1 w (by omega), d1 w (by omega), wr_id (by omega) (by omega), show (w : Int) + 1 = ((w + 1 : Nat) : Int) by omega, ih (w + 1) (by omega) fuel (by omega), allR_s]
      by_cases c : FM g i w = FM g q w
      · rw [if_pos c, decide_eq_true c, Bool.true_and]
      · rw [if_neg c, decide_eq_false c]; rfl
  exact L 19 0 rfl FU (by decide)
theorem alike_ok (q : Int) : OKC (Bat_alike 16 q) (Mod_alike 401 q) := by
  refine OKC_look (A := fun g => alkA g q) (fun h own g c m => ?_) (fun h m => ⟨h, Mod_alike_e m.1 m.2.1 q, RF.refl h⟩)
  refine ⟨hI h, ?_, SC.refl _⟩
  have b3 := m.2.1.2.2.1
  unfold Bat_alike alkA
  rw [rc_k c.fx.1, c.hq, bnd_some, ite_nbi, WI_id]
  by_cases a : 0 ≤ q ∧ q < hI g 401 10
  · obtain ⟨Q, rfl⟩ : ∃ k : Nat, q = (k : Int) := ⟨q.toNat, by omega⟩
    rw [decide_eq_true a, if_pos rfl, if_pos a, show ((Q : Nat) : Int).toNat = Q from rfl]
    have L : ∀ (n i : Nat), i + n = Q → ∀ fuel, n < fuel → Bat_alike_L12 fuel 16 (Q : Int) (i : Int) h = some (((alkF (lkB g Q) n i : Nat) : Int), h) := by
      intro n
      induction n with
      | zero =>
        intro i hi fuel hf
        obtain ⟨fuel, rfl⟩ : ∃ k, fuel = k + 1 := ⟨fuel - 1, by omega⟩
        rw [Bat_alike_L12, if_pos (by omega), show Q = i by omega]; rfl
      | succ n ih =>
        intro i hi fuel hf
        obtain ⟨fuel, rfl⟩ : ∃ k, fuel = k + 1 := ⟨fuel - 1, by omega⟩
        rw [Bat_alike_L12, if_neg (by omega), c.qr (by omega), c.qr (by omega), rc_k (c.2.1.1.2 i (by omega)).2.1, like_C c m (by omega) a.2, bnd_some, ite_bi, wr_id (by omega) (by omega), show (i : Int) + 1 = ((i + 1 : Nat) : Int) by omega, ih (i + 1) (by omega) fuel (by omega), alkF]
        cases lkB g Q i <;> rfl
    exact L Q 0 (by omega) FU (by have := FU_big; omega)
  · rw [decide_eq_false a, if_neg (by decide), if_neg a]
theorem CAS.live (c : CAS h own g) (m : MR g) {q : Nat} (hq : (q : Int) < hI g 401 10) : Bat_isLive 16 (q : Int) h = some (bi (rOn g q), h) := by
  have b3 := m.2.1.2.2.1
  obtain ⟨q1, q2, q3, q4, q5, q6, q7⟩ := c.2.1.1.2 q (by omega)
  obtain ⟨d1, d2, d3⟩ := c.2.1.2 q hq
  unfold Bat_isLive rOn
  rw [c.qr (by omega), gI_k q2, d2, ite_nbi, c.way, rc_k c.st.1.1, c.stk m (by omega), bnd_some, ite_nbi]
  cases rVd g q <;> cases hasB (hI g 402 4) q <;> rfl
theorem mkB_or (c : Nat → Bool) {n : Nat} (hn : n ≤ 8) : iOr (mkB c n) 0 = mkB c n := by
  have p : 2 ^ n ≤ 2 ^ 8 := Nat.pow_le_pow_right (by decide) hn
  have l1 := mkN_lt c n
  rw [mkB_n _ n hn, show (0 : Int) = ((0 : Nat) : Int) from rfl, iOr_n (by omega) (by omega), Nat.or_zero]
theorem CAS.takes (c : CAS h own g) (m : MR g) {q : Nat} (hq : (q : Int) < hI g 401 10) {t row : Int} (o : rowOk (rr (hI g)) t row = true) : Par_takes (332 + 9 * q + 2 * t.toNat) (if t = 0 then 43 else 45) row h = some (bi (inF (qp g q t) (num g row) t), h) := by
  have b3 := m.2.1.2.2.1
  obtain ⟨q1, q2, q3, q4, q5, q6, q7⟩ := c.2.1.1.2 q (by omega)
  obtain ⟨d1, d2, d3⟩ := c.2.1.2 q hq
  obtain ⟨ht, r0, r1⟩ := rowOk_i.mp o
  have s := c.st
  have b2 := s.2.2.2.2.1
  have b4 := s.2.2.2.2.2.1
  rcases ht with rfl | rfl
  · have e := s.tR (q7 0 (by decide)).2 row
    rw [if_pos rfl] at r1
    rw [decide_eq_true ⟨r0, r1⟩, Bool.true_and, inF_c (show eq13 (hI h (332 + 9 * q + 2 * 0 + 1)) (qp g q 0) by rw [show 332 + 9 * q + 2 * 0 + 1 = 333 + 9 * q + 2 * 0 by omega]; exact d3 0 (by decide)), inF_num _ _ r0 (by rw [if_pos rfl]; omega)] at e
    exact e
  · have e := s.tS (q7 1 (by decide)).2 row
    rw [if_neg (by decide)] at r1
    rw [decide_eq_true ⟨r0, r1⟩, Bool.true_and, inF_c (show eq13 (hI h (332 + 9 * q + 2 * 1 + 1)) (qp g q 1) by rw [show 332 + 9 * q + 2 * 1 + 1 = 333 + 9 * q + 2 * 1 by omega]; exact d3 1 (by decide)), inF_num _ _ r0 (by rw [if_neg (by decide)]; omega)] at e
    exact e
theorem marks_C (c : CAS h own g) (m : MR g) {t row : Int} (o : rowOk (rr (hI g)) t row = true) : ∀ (n q fuel : Nat), (q : Int) + n = hI g 401 10 → n < fuel → Bat_marksOf_L5 fuel 16 t row (mkB (mkC g t row) q) (q : Int) h = some (mkB (mkC g t row) (nQ g), h)
  | 0, q, fuel + 1, hq, _ => by
    rw [Bat_marksOf_L5, gI_k c.fx.1, c.2.2.1.1, if_pos (by omega), show nQ g = q by unfold nQ; omega]
  | n + 1, q, fuel + 1, hq, hf => by
    have b3 := m.2.1.2.2.1
    have ih := marks_C c m o n (q + 1) fuel (by omega) (by omega)
    obtain ⟨q1, q2, q3, q4, q5, q6, q7⟩ := c.2.1.1.2 q (by omega)
    obtain ⟨ht, r0, r1⟩ := rowOk_i.mp o
    have pt := q7 t.toNat (by omega)
    have tk := c.takes m (q := q) (by omega) o
    rw [mkB, show mkC g t row q = (rOn g q && (rHas g q t && inF (qp g q t) (num g row) t)) from rfl] at ih
    have o0 := mkB_or (mkC g t row) (n := q) (by omega)
    have s := c.st
    have tb : (gR h 9 21 0 fun r => aR h 34 r t (fun r17 => rc h 4 (332 + 9 * q + 2 * t.toNat) <| bnd (Par_takes (332 + 9 * q + 2 * t.toNat) r17 row h) fun x19 h18 => if (x19 : Int) = 0 then (Bat_marksOf_L5 fuel 16 t row (mkB (mkC g t row) q) ((wr ((q : Int) + 1))) h18) else (Bat_marksOf_L5 fuel 16 t row ((iOr (mkB (mkC g t row) q) (iShl 1 (q : Int)))) ((wr ((q : Int) + 1))) h18))) = if inF (qp g q t) (num g row) t = true then Bat_marksOf_L5 fuel 16 t row ((iOr (mkB (mkC g t row) q) (iShl 1 (q : Int)))) ((q + 1 : Nat) : Int) h else Bat_marksOf_L5 fuel 16 t row (mkB (mkC g t row) q) ((q + 1 : Nat) : Int) h := by
      rw [s.tb ht, rc_k pt.2.1, show (if t = 0 then 21 + 22 else 21 + 24) = (if t = 0 then 43 else 45) from rfl, tk, bnd_some, ite_bi, wr_id (by omega) (by omega), show (q : Int) + 1 = ((q + 1 : Nat) : Int) by omega]
    rw [Bat_marksOf_L5, gI_k c.fx.1, c.2.2.1.1, if_neg (by omega), rc_k c.fx.1, c.live m (by omega), bnd_some, ite_bi, c.qr (by omega), rc_k q2, c.2.1.has m.2.1 (by omega) t, bnd_some, ite_bi, c.qr (by omega), gR_k q2, q4, aR_k q6 (by omega) (by omega), pt.1, c.way, tb, wr_id (by omega) (by omega), show (q : Int) + 1 = ((q + 1 : Nat) : Int) by omega]
    cases e1 : rOn g q
    · rw [e1, Bool.false_and, if_neg (by decide), o0] at ih
      rw [if_neg (by decide), ih]
    · have ev : rVd g q = false := by
        unfold rOn at e1; simp only [Bool.and_eq_true] at e1; simpa using e1.1
      rw [if_pos rfl, ev, Bool.not_false, Bool.true_and]
      rw [e1, Bool.true_and] at ih
      cases e2 : rHas g q t
      · rw [e2, Bool.false_and, if_neg (by decide), o0] at ih
        rw [if_neg (by decide), ih]
      · rw [e2, Bool.true_and] at ih
        rw [if_pos rfl]
        cases e3 : inF (qp g q t) (num g row) t
        · rw [e3, if_neg (by decide), o0] at ih
          rw [if_neg (by decide), ih]
        · rw [e3, if_pos rfl] at ih
          rw [if_pos rfl, ih]
theorem marksOf_C (c : CAS h own g) (m : MR g) {t row : Int} (o : rowOk (rr (hI g)) t row = true) : Bat_marksOf 16 t row h = some (mkB (mkC g t row) (nQ g), h) := by
  have b3 := m.2.1.2.2.1
  exact marks_C c m o (nQ g) 0 FU (by unfold nQ; omega) (by have := FU_big; unfold nQ; omega)
theorem marks_ok (t row : Int) : OKC (Bat_marks 16 t row) (Mod_marks 401 t row) := by
  refine OKC_look (A := fun g => marksA g t row) (fun h own g c m => ?_) (fun h m => ⟨h, Mod_marks_e m.1 m.2.1 t row, RF.refl h⟩)
  refine ⟨hI h, ?_, SC.refl _⟩
  unfold Bat_marks marksA
  rw [rc_k c.fx.1, Bat_hasRow_e c, bnd_some, ite_bi, WI_id]
  by_cases o : rowOk (rr (hI g)) t row = true
  · rw [if_pos o, if_pos o, rc_k c.fx.1, marksOf_C c m o, bnd_some]
  · rw [if_neg o, if_neg o]
theorem residue_ok (q k : Int) : OKC (Bat_residue 16 q k) (Mod_residue 401 q k) := by
  refine OKC_look (A := fun g => rsdA g q k) (fun h own g c m => ?_) (fun h m => Mod_residue_e m.1 m.2.1 m.2.2.2.1 q k)
  refine ⟨hI h, ?_, SC.refl _⟩
  have s := c.st
  have b3 := m.2.1.2.2.1
  have b5 := s.2.2.n5
  have e5 : rr (hI g) 5 = hI g 402 5 := rr_s _ (by decide)
  unfold Bat_residue rsdA askd
  rw [rc_k c.fx.1, c.hq, bnd_some, ite_bi, WI_id]
  by_cases a : 0 ≤ q ∧ q < hI g 401 10
  · obtain ⟨Q, rfl⟩ : ∃ k : Nat, q = (k : Int) := ⟨q.toNat, by omega⟩
    rw [decide_eq_true a, if_pos rfl, Bool.true_and, c.way, rc_k s.1.1, c.stk m (by omega), bnd_some, ite_nbi]
    cases hb : hasB (hI g 402 4) (Q : Int)
    · rw [if_neg (by decide), Bool.not_false, Bool.true_and, rc_k c.fx.1, Bat_hasKept_e c, bnd_some, ite_nbi]
      by_cases a2 : 0 ≤ k ∧ k < hI g 402 5
      · obtain ⟨K, rfl⟩ : ∃ j : Nat, k = (j : Int) := ⟨k.toNat, by omega⟩
        obtain ⟨ke, k0, k1, k2, k3, k4⟩ := s.it (i := K) (by omega)
        have kb := s.2.2.k (k := K) (by omega)
        obtain ⟨q1, q2, q3, q4, q5, q6, q7⟩ := c.2.1.1.2 Q (by omega)
        obtain ⟨d1, d2, d3⟩ := c.2.1.2 Q a.2
        have nb := nRS m.2.1
        have kd : hI h (hR h (21 + 2 + 1) K + 1 + 1) 0 = kp (rr (hI g)) K 0 := by
          have := k4 0 (by decide)
          rw [show hR h (21 + 2 + 1) K + 1 + 1 = hR h (21 + 2 + 1) K + 2 by omega]; exact this
        have kk := Par_kind_e ke.2.2
        rw [kd] at kk
        have hol : ∀ p, PA h p → Par_holds (hR h (21 + 2 + 1) K + 1) p h = some (bi (holdF (kp (rr (hI g)) K) (hI h (p + 1))), h) := fun p hp => by
          rw [Par_holds_e ke.2.2 hp, holdF_c (σ := kp (rr (hI g)) K) (σ' := hI h (p + 1)) (fun t ht => by rw [show hR h (21 + 2 + 1) K + 1 + 1 = hR h (21 + 2 + 1) K + 2 by omega]; exact k4 t ht) (fun _ _ => rfl)]
        have k3' := kb.1.1
        unfold rsdB
        rw [decide_eq_true a2, if_pos rfl, if_pos rfl, c.way, gR_k s.1.1, s.sp, s.sh.g (by omega), if_neg k0, gR_k ke.1, ke.2.1, rc_k ke.2.2.1, kk, bnd_some, gI_k ke.1, k3, show ((Q : Nat) : Int).toNat = Q from rfl, show ((K : Nat) : Int).toNat = K from rfl]
        generalize hkd : kp (rr (hI g)) K 0 = kd' at *
        by_cases c3 : kp (rr (hI g)) K 15 = 0
        · rw [if_neg (by simpa using c3), decide_eq_true c3, Bool.true_and, c.qr (by omega), rc_k q2, c.2.1.has m.2.1 a.2 kd', bnd_some, ite_nbi]
          cases ev : rVd g Q
          · cases eh : rHas g Q kd'
            · rfl
            · have pt := q7 kd'.toNat (by omega)
              have e13 : eq13 (hI h (332 + 9 * Q + 2 * kd'.toNat + 1)) (qp g Q kd') := by
                have := d3 kd'.toNat (by omega)
                rw [show ((kd'.toNat : Nat) : Int) = kd' by omega] at this
                rw [show 332 + 9 * Q + 2 * kd'.toNat + 1 = 333 + 9 * Q + 2 * kd'.toNat by omega]
                exact this
              have okq := qp_ok m.2.1 (q := Q) (k := kd') a.2 (by omega) eh
              have ri := s.rowsIn pt.2 (okP_c (fun t ht => (e13 t ht).symm) okq)
              rw [rowsF_c e13, rr_s _ (by decide), rr_s _ (by decide), rowsF_num _ okq nb.1 nb.2] at ri
              have rb := rowsF_b (qp g Q kd') (num g) nb.1 nb.2
              have ri' : Par_rowsIn (332 + 9 * Q + 2 * kd'.toNat) 21 h = some (((rowsF (qp g Q kd') (num g) (nR g) (nS g) : Nat) : Int), h) := ri
              rw [Bool.not_false, Bool.true_and, Bool.true_and, if_pos rfl, c.qr (by omega), gR_k q2, q4, aR_k q6 (by omega) (by omega), pt.1, if_neg (by omega), gR_k ke.1, ke.2.1, rc_k ke.2.2.1, hol _ pt.2, bnd_some, ite_bi, holdF_c (π' := hI h (332 + 9 * Q + 2 * kd'.toNat + 1)) (σ' := qp g Q kd') (fun _ _ => rfl) e13]
              cases eo : holdF (kp (rr (hI g)) K) (qp g Q kd')
              · rfl
              · rw [if_pos rfl, if_pos (show (true && true) = true from rfl), gI_k ke.1, k1, c.way, rc_k pt.2.1, ri', bnd_some, wr_id (by omega) (by omega)]
          · rfl
        · rw [if_pos c3, decide_eq_false c3, Bool.false_and, Bool.and_false, Bool.and_false]; rfl
      · rw [decide_eq_false a2, if_neg (by decide), if_neg (by decide)]
    · rw [if_pos rfl]; rfl
  · rw [decide_eq_false a, if_neg (by decide), Bool.false_and, Bool.false_and]; rfl
end K13
